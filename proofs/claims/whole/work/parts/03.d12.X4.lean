theorem dX4_pours_0 : decode cX4_pours 0 = .ok (.aload_n 0, 1) := by decide +kernel
theorem dX4_pours_1 : decode cX4_pours 1 = .ok (.iconst 0, 1) := by decide +kernel
theorem dX4_pours_2 : decode cX4_pours 2 = .ok (.invokevirtual 174, 3) := by decide +kernel
theorem dX4_pours_5 : decode cX4_pours 5 = .ok (.ireturn, 1) := by decide +kernel
theorem dX4_isDay_0 : decode cX4_isDay 0 = .ok (.aload_n 0, 1) := by decide +kernel
theorem dX4_isDay_1 : decode cX4_isDay 1 = .ok (.iload_n 1, 1) := by decide +kernel
theorem dX4_isDay_2 : decode cX4_isDay 2 = .ok (.invokevirtual 171, 3) := by decide +kernel
theorem dX4_isDay_5 : decode cX4_isDay 5 = .ok (.bipush 24, 2) := by decide +kernel
theorem dX4_isDay_7 : decode cX4_isDay 7 = .ok (.irem, 1) := by decide +kernel
theorem dX4_isDay_8 : decode cX4_isDay 8 = .ok (.i2l, 1) := by decide +kernel
theorem dX4_isDay_9 : decode cX4_isDay 9 = .ok (.ldc2_w 187, 3) := by decide +kernel
theorem dX4_isDay_12 : decode cX4_isDay 12 = .ok (.ldc2_w 189, 3) := by decide +kernel
theorem dX4_isDay_15 : decode cX4_isDay 15 = .ok (.invokestatic 59, 3) := by decide +kernel
theorem dX4_isDay_18 : decode cX4_isDay 18 = .ok (.ireturn, 1) := by decide +kernel
theorem dX4_lossOf_0 : decode cX4_lossOf 0 = .ok (.aload_n 0, 1) := by decide +kernel
theorem dX4_lossOf_1 : decode cX4_lossOf 1 = .ok (.getfield 13, 3) := by decide +kernel
theorem dX4_lossOf_4 : decode cX4_lossOf 4 = .ok (.iload_n 2, 1) := by decide +kernel
theorem dX4_lossOf_5 : decode cX4_lossOf 5 = .ok (.iaload, 1) := by decide +kernel
theorem dX4_lossOf_6 : decode cX4_lossOf 6 = .ok (.istore 4, 2) := by decide +kernel
theorem dX4_lossOf_8 : decode cX4_lossOf 8 = .ok (.iload 4, 2) := by decide +kernel
theorem dX4_lossOf_10 : decode cX4_lossOf 10 = .ok (.iconst 3, 1) := by decide +kernel
theorem dX4_lossOf_11 : decode cX4_lossOf 11 = .ok (.if_icmp .eq 19, 3) := by decide +kernel
theorem dX4_lossOf_14 : decode cX4_lossOf 14 = .ok (.iload 4, 2) := by decide +kernel
theorem dX4_lossOf_16 : decode cX4_lossOf 16 = .ok (.iconst 2, 1) := by decide +kernel
theorem dX4_lossOf_17 : decode cX4_lossOf 17 = .ok (.if_icmp .ne 17, 3) := by decide +kernel
theorem dX4_lossOf_20 : decode cX4_lossOf 20 = .ok (.aload_n 0, 1) := by decide +kernel
theorem dX4_lossOf_21 : decode cX4_lossOf 21 = .ok (.iload_n 1, 1) := by decide +kernel
theorem dX4_lossOf_22 : decode cX4_lossOf 22 = .ok (.invokevirtual 171, 3) := by decide +kernel
theorem dX4_lossOf_25 : decode cX4_lossOf 25 = .ok (.iconst 2, 1) := by decide +kernel
theorem dX4_lossOf_26 : decode cX4_lossOf 26 = .ok (.irem, 1) := by decide +kernel
theorem dX4_lossOf_27 : decode cX4_lossOf 27 = .ok (.ifCond .ne 7, 3) := by decide +kernel
theorem dX4_lossOf_30 : decode cX4_lossOf 30 = .ok (.iconst 1, 1) := by decide +kernel
theorem dX4_lossOf_31 : decode cX4_lossOf 31 = .ok (.goto 4, 3) := by decide +kernel
theorem dX4_lossOf_34 : decode cX4_lossOf 34 = .ok (.iconst 0, 1) := by decide +kernel
theorem dX4_lossOf_35 : decode cX4_lossOf 35 = .ok (.istore 5, 2) := by decide +kernel
theorem dX4_lossOf_37 : decode cX4_lossOf 37 = .ok (.aload_n 0, 1) := by decide +kernel
theorem dX4_lossOf_38 : decode cX4_lossOf 38 = .ok (.iload_n 1, 1) := by decide +kernel
theorem dX4_lossOf_39 : decode cX4_lossOf 39 = .ok (.invokevirtual 191, 3) := by decide +kernel
theorem dX4_lossOf_42 : decode cX4_lossOf 42 = .ok (.ifCond .eq 7, 3) := by decide +kernel
theorem dX4_lossOf_45 : decode cX4_lossOf 45 = .ok (.iconst 1, 1) := by decide +kernel
theorem dX4_lossOf_46 : decode cX4_lossOf 46 = .ok (.goto 4, 3) := by decide +kernel
theorem dX4_lossOf_49 : decode cX4_lossOf 49 = .ok (.iconst 0, 1) := by decide +kernel
theorem dX4_lossOf_50 : decode cX4_lossOf 50 = .ok (.iload_n 3, 1) := by decide +kernel
theorem dX4_lossOf_51 : decode cX4_lossOf 51 = .ok (.ifCond .eq 7, 3) := by decide +kernel
theorem dX4_lossOf_54 : decode cX4_lossOf 54 = .ok (.iconst 1, 1) := by decide +kernel
theorem dX4_lossOf_55 : decode cX4_lossOf 55 = .ok (.goto 4, 3) := by decide +kernel
theorem dX4_lossOf_58 : decode cX4_lossOf 58 = .ok (.iconst 0, 1) := by decide +kernel
theorem dX4_lossOf_59 : decode cX4_lossOf 59 = .ok (.iadd, 1) := by decide +kernel
theorem dX4_lossOf_60 : decode cX4_lossOf 60 = .ok (.iload 5, 2) := by decide +kernel
theorem dX4_lossOf_62 : decode cX4_lossOf 62 = .ok (.iadd, 1) := by decide +kernel
theorem dX4_lossOf_63 : decode cX4_lossOf 63 = .ok (.ireturn, 1) := by decide +kernel
theorem dX4_loses_0 : decode cX4_loses 0 = .ok (.aload_n 0, 1) := by decide +kernel
theorem dX4_loses_1 : decode cX4_loses 1 = .ok (.iload_n 1, 1) := by decide +kernel
theorem dX4_loses_2 : decode cX4_loses 2 = .ok (.invokevirtual 177, 3) := by decide +kernel
theorem dX4_loses_5 : decode cX4_loses 5 = .ok (.ifCond .ne 7, 3) := by decide +kernel
theorem dX4_loses_8 : decode cX4_loses 8 = .ok (.iconst (-1), 1) := by decide +kernel
theorem dX4_loses_9 : decode cX4_loses 9 = .ok (.goto 23, 3) := by decide +kernel
theorem dX4_loses_12 : decode cX4_loses 12 = .ok (.aload_n 0, 1) := by decide +kernel
theorem dX4_loses_13 : decode cX4_loses 13 = .ok (.iconst 0, 1) := by decide +kernel
theorem dX4_loses_14 : decode cX4_loses 14 = .ok (.iload_n 1, 1) := by decide +kernel
theorem dX4_loses_15 : decode cX4_loses 15 = .ok (.invokevirtual 167, 3) := by decide +kernel
theorem dX4_loses_18 : decode cX4_loses 18 = .ok (.ifCond .eq 7, 3) := by decide +kernel
theorem dX4_loses_21 : decode cX4_loses 21 = .ok (.iconst 0, 1) := by decide +kernel
theorem dX4_loses_22 : decode cX4_loses 22 = .ok (.goto 10, 3) := by decide +kernel
theorem dX4_loses_25 : decode cX4_loses 25 = .ok (.aload_n 0, 1) := by decide +kernel
theorem dX4_loses_26 : decode cX4_loses 26 = .ok (.iconst 0, 1) := by decide +kernel
theorem dX4_loses_27 : decode cX4_loses 27 = .ok (.iload_n 1, 1) := by decide +kernel
theorem dX4_loses_28 : decode cX4_loses 28 = .ok (.iload_n 2, 1) := by decide +kernel
theorem dX4_loses_29 : decode cX4_loses 29 = .ok (.invokevirtual 194, 3) := by decide +kernel
theorem dX4_loses_32 : decode cX4_loses 32 = .ok (.ireturn, 1) := by decide +kernel
theorem dX4_sets_0 : decode cX4_sets 0 = .ok (.iload_n 1, 1) := by decide +kernel
theorem dX4_sets_1 : decode cX4_sets 1 = .ok (.ifCond .ne 5, 3) := by decide +kernel
theorem dX4_sets_4 : decode cX4_sets 4 = .ok (.iconst (-1), 1) := by decide +kernel
theorem dX4_sets_5 : decode cX4_sets 5 = .ok (.ireturn, 1) := by decide +kernel
theorem dX4_sets_6 : decode cX4_sets 6 = .ok (.aload_n 0, 1) := by decide +kernel
theorem dX4_sets_7 : decode cX4_sets 7 = .ok (.getfield 7, 3) := by decide +kernel
theorem dX4_sets_10 : decode cX4_sets 10 = .ok (.iload_n 2, 1) := by decide +kernel
theorem dX4_sets_11 : decode cX4_sets 11 = .ok (.iaload, 1) := by decide +kernel
theorem dX4_sets_12 : decode cX4_sets 12 = .ok (.istore 4, 2) := by decide +kernel
theorem dX4_sets_14 : decode cX4_sets 14 = .ok (.aload_n 0, 1) := by decide +kernel
theorem dX4_sets_15 : decode cX4_sets 15 = .ok (.getfield 7, 3) := by decide +kernel
theorem dX4_sets_18 : decode cX4_sets 18 = .ok (.iload_n 2, 1) := by decide +kernel
theorem dX4_sets_19 : decode cX4_sets 19 = .ok (.iload_n 3, 1) := by decide +kernel
theorem dX4_sets_20 : decode cX4_sets 20 = .ok (.iastore, 1) := by decide +kernel
theorem dX4_sets_21 : decode cX4_sets 21 = .ok (.iload 4, 2) := by decide +kernel
theorem dX4_sets_23 : decode cX4_sets 23 = .ok (.ireturn, 1) := by decide +kernel
theorem dX4_teach_0 : decode cX4_teach 0 = .ok (.aload_n 0, 1) := by decide +kernel
theorem dX4_teach_1 : decode cX4_teach 1 = .ok (.aload_n 0, 1) := by decide +kernel
theorem dX4_teach_2 : decode cX4_teach 2 = .ok (.iload_n 1, 1) := by decide +kernel
theorem dX4_teach_3 : decode cX4_teach 3 = .ok (.invokevirtual 177, 3) := by decide +kernel
theorem dX4_teach_6 : decode cX4_teach 6 = .ok (.ifCond .eq 19, 3) := by decide +kernel
theorem dX4_teach_9 : decode cX4_teach 9 = .ok (.iload_n 2, 1) := by decide +kernel
theorem dX4_teach_10 : decode cX4_teach 10 = .ok (.i2l, 1) := by decide +kernel
theorem dX4_teach_11 : decode cX4_teach 11 = .ok (.lconst 0, 1) := by decide +kernel
theorem dX4_teach_12 : decode cX4_teach 12 = .ok (.ldc2_w 198, 3) := by decide +kernel
theorem dX4_teach_15 : decode cX4_teach 15 = .ok (.invokestatic 59, 3) := by decide +kernel
theorem dX4_teach_18 : decode cX4_teach 18 = .ok (.ifCond .eq 7, 3) := by decide +kernel
theorem dX4_teach_21 : decode cX4_teach 21 = .ok (.iconst 1, 1) := by decide +kernel
theorem dX4_teach_22 : decode cX4_teach 22 = .ok (.goto 4, 3) := by decide +kernel
theorem dX4_teach_25 : decode cX4_teach 25 = .ok (.iconst 0, 1) := by decide +kernel
theorem dX4_teach_26 : decode cX4_teach 26 = .ok (.iload_n 1, 1) := by decide +kernel
theorem dX4_teach_27 : decode cX4_teach 27 = .ok (.iload_n 2, 1) := by decide +kernel
theorem dX4_teach_28 : decode cX4_teach 28 = .ok (.invokevirtual 200, 3) := by decide +kernel
theorem dX4_teach_31 : decode cX4_teach 31 = .ok (.ireturn, 1) := by decide +kernel
theorem dX4_drinks_0 : decode cX4_drinks 0 = .ok (.aload_n 0, 1) := by decide +kernel
theorem dX4_drinks_1 : decode cX4_drinks 1 = .ok (.iload_n 1, 1) := by decide +kernel
theorem dX4_drinks_2 : decode cX4_drinks 2 = .ok (.invokevirtual 177, 3) := by decide +kernel
theorem dX4_drinks_5 : decode cX4_drinks 5 = .ok (.ifCond .eq 15, 3) := by decide +kernel
theorem dX4_drinks_8 : decode cX4_drinks 8 = .ok (.iload_n 2, 1) := by decide +kernel
theorem dX4_drinks_9 : decode cX4_drinks 9 = .ok (.i2l, 1) := by decide +kernel
theorem dX4_drinks_10 : decode cX4_drinks 10 = .ok (.lconst 0, 1) := by decide +kernel
theorem dX4_drinks_11 : decode cX4_drinks 11 = .ok (.ldc2_w 204, 3) := by decide +kernel
theorem dX4_drinks_14 : decode cX4_drinks 14 = .ok (.invokestatic 59, 3) := by decide +kernel
theorem dX4_drinks_17 : decode cX4_drinks 17 = .ok (.ifCond .ne 5, 3) := by decide +kernel
theorem dX4_drinks_20 : decode cX4_drinks 20 = .ok (.iconst (-1), 1) := by decide +kernel
theorem dX4_drinks_21 : decode cX4_drinks 21 = .ok (.ireturn, 1) := by decide +kernel
theorem dX4_drinks_22 : decode cX4_drinks 22 = .ok (.aload_n 0, 1) := by decide +kernel
theorem dX4_drinks_23 : decode cX4_drinks 23 = .ok (.iconst 0, 1) := by decide +kernel
theorem dX4_drinks_24 : decode cX4_drinks 24 = .ok (.iload_n 1, 1) := by decide +kernel
theorem dX4_drinks_25 : decode cX4_drinks 25 = .ok (.invokevirtual 167, 3) := by decide +kernel
theorem dX4_drinks_28 : decode cX4_drinks 28 = .ok (.ifCond .ne 14, 3) := by decide +kernel
theorem dX4_drinks_31 : decode cX4_drinks 31 = .ok (.aload_n 0, 1) := by decide +kernel
theorem dX4_drinks_32 : decode cX4_drinks 32 = .ok (.getfield 7, 3) := by decide +kernel
theorem dX4_drinks_35 : decode cX4_drinks 35 = .ok (.bipush 8, 2) := by decide +kernel
theorem dX4_drinks_37 : decode cX4_drinks 37 = .ok (.iaload, 1) := by decide +kernel
theorem dX4_drinks_38 : decode cX4_drinks 38 = .ok (.iload_n 2, 1) := by decide +kernel
theorem dX4_drinks_39 : decode cX4_drinks 39 = .ok (.if_icmp .ge 6, 3) := by decide +kernel
theorem dX4_drinks_42 : decode cX4_drinks 42 = .ok (.bipush (-2), 2) := by decide +kernel
theorem dX4_drinks_44 : decode cX4_drinks 44 = .ok (.ireturn, 1) := by decide +kernel
theorem dX4_drinks_45 : decode cX4_drinks 45 = .ok (.aload_n 0, 1) := by decide +kernel
theorem dX4_drinks_46 : decode cX4_drinks 46 = .ok (.getfield 7, 3) := by decide +kernel
theorem dX4_drinks_49 : decode cX4_drinks 49 = .ok (.iconst 4, 1) := by decide +kernel
theorem dX4_drinks_50 : decode cX4_drinks 50 = .ok (.iload_n 1, 1) := by decide +kernel
theorem dX4_drinks_51 : decode cX4_drinks 51 = .ok (.iadd, 1) := by decide +kernel
theorem dX4_drinks_52 : decode cX4_drinks 52 = .ok (.iaload, 1) := by decide +kernel
theorem dX4_drinks_53 : decode cX4_drinks 53 = .ok (.iload_n 2, 1) := by decide +kernel
theorem dX4_drinks_54 : decode cX4_drinks 54 = .ok (.iadd, 1) := by decide +kernel
theorem dX4_drinks_55 : decode cX4_drinks 55 = .ok (.bipush 20, 2) := by decide +kernel
theorem dX4_drinks_57 : decode cX4_drinks 57 = .ok (.if_icmp .le 6, 3) := by decide +kernel
theorem dX4_drinks_60 : decode cX4_drinks 60 = .ok (.bipush (-3), 2) := by decide +kernel
theorem dX4_drinks_62 : decode cX4_drinks 62 = .ok (.ireturn, 1) := by decide +kernel
theorem dX4_drinks_63 : decode cX4_drinks 63 = .ok (.aload_n 0, 1) := by decide +kernel
theorem dX4_drinks_64 : decode cX4_drinks 64 = .ok (.getfield 7, 3) := by decide +kernel
theorem dX4_drinks_67 : decode cX4_drinks 67 = .ok (.bipush 8, 2) := by decide +kernel
theorem dX4_drinks_69 : decode cX4_drinks 69 = .ok (.dup2, 1) := by decide +kernel
theorem dX4_drinks_70 : decode cX4_drinks 70 = .ok (.iaload, 1) := by decide +kernel
theorem dX4_drinks_71 : decode cX4_drinks 71 = .ok (.iload_n 2, 1) := by decide +kernel
theorem dX4_drinks_72 : decode cX4_drinks 72 = .ok (.isub, 1) := by decide +kernel
theorem dX4_drinks_73 : decode cX4_drinks 73 = .ok (.iastore, 1) := by decide +kernel
theorem dX4_drinks_74 : decode cX4_drinks 74 = .ok (.aload_n 0, 1) := by decide +kernel
theorem dX4_drinks_75 : decode cX4_drinks 75 = .ok (.getfield 7, 3) := by decide +kernel
theorem dX4_drinks_78 : decode cX4_drinks 78 = .ok (.iconst 4, 1) := by decide +kernel
theorem dX4_drinks_79 : decode cX4_drinks 79 = .ok (.iload_n 1, 1) := by decide +kernel
theorem dX4_drinks_80 : decode cX4_drinks 80 = .ok (.iadd, 1) := by decide +kernel
theorem dX4_drinks_81 : decode cX4_drinks 81 = .ok (.dup2, 1) := by decide +kernel
theorem dX4_drinks_82 : decode cX4_drinks 82 = .ok (.iaload, 1) := by decide +kernel
theorem dX4_drinks_83 : decode cX4_drinks 83 = .ok (.iload_n 2, 1) := by decide +kernel
theorem dX4_drinks_84 : decode cX4_drinks 84 = .ok (.iadd, 1) := by decide +kernel
theorem dX4_drinks_85 : decode cX4_drinks 85 = .ok (.iastore, 1) := by decide +kernel
theorem dX4_drinks_86 : decode cX4_drinks 86 = .ok (.aload_n 0, 1) := by decide +kernel
theorem dX4_drinks_87 : decode cX4_drinks 87 = .ok (.getfield 7, 3) := by decide +kernel
theorem dX4_drinks_90 : decode cX4_drinks 90 = .ok (.iconst 4, 1) := by decide +kernel
theorem dX4_drinks_91 : decode cX4_drinks 91 = .ok (.iload_n 1, 1) := by decide +kernel
theorem dX4_drinks_92 : decode cX4_drinks 92 = .ok (.iadd, 1) := by decide +kernel
theorem dX4_drinks_93 : decode cX4_drinks 93 = .ok (.iaload, 1) := by decide +kernel
theorem dX4_drinks_94 : decode cX4_drinks 94 = .ok (.ireturn, 1) := by decide +kernel
theorem dX4_drink_0 : decode cX4_drink 0 = .ok (.aload_n 0, 1) := by decide +kernel
theorem dX4_drink_1 : decode cX4_drink 1 = .ok (.iload_n 1, 1) := by decide +kernel
theorem dX4_drink_2 : decode cX4_drink 2 = .ok (.iload_n 2, 1) := by decide +kernel
theorem dX4_drink_3 : decode cX4_drink 3 = .ok (.invokevirtual 206, 3) := by decide +kernel
theorem dX4_drink_6 : decode cX4_drink 6 = .ok (.ireturn, 1) := by decide +kernel
theorem dX4_fill_0 : decode cX4_fill 0 = .ok (.aload_n 0, 1) := by decide +kernel
theorem dX4_fill_1 : decode cX4_fill 1 = .ok (.iload_n 1, 1) := by decide +kernel
theorem dX4_fill_2 : decode cX4_fill 2 = .ok (.i2l, 1) := by decide +kernel
theorem dX4_fill_3 : decode cX4_fill 3 = .ok (.lconst 0, 1) := by decide +kernel
theorem dX4_fill_4 : decode cX4_fill 4 = .ok (.ldc2_w 209, 3) := by decide +kernel
theorem dX4_fill_7 : decode cX4_fill 7 = .ok (.invokestatic 59, 3) := by decide +kernel
theorem dX4_fill_10 : decode cX4_fill 10 = .ok (.bipush 8, 2) := by decide +kernel
theorem dX4_fill_12 : decode cX4_fill 12 = .ok (.iload_n 1, 1) := by decide +kernel
theorem dX4_fill_13 : decode cX4_fill 13 = .ok (.invokevirtual 200, 3) := by decide +kernel
theorem dX4_fill_16 : decode cX4_fill 16 = .ok (.ireturn, 1) := by decide +kernel
theorem dX4_plan_0 : decode cX4_plan 0 = .ok (.aload_n 0, 1) := by decide +kernel
theorem dX4_plan_1 : decode cX4_plan 1 = .ok (.iload_n 1, 1) := by decide +kernel
theorem dX4_plan_2 : decode cX4_plan 2 = .ok (.invokestatic 211, 3) := by decide +kernel
theorem dX4_plan_5 : decode cX4_plan 5 = .ok (.bipush 11, 2) := by decide +kernel
theorem dX4_plan_7 : decode cX4_plan 7 = .ok (.iload_n 1, 1) := by decide +kernel
theorem dX4_plan_8 : decode cX4_plan 8 = .ok (.invokevirtual 200, 3) := by decide +kernel
theorem dX4_plan_11 : decode cX4_plan 11 = .ok (.ireturn, 1) := by decide +kernel
theorem dX4_wet_0 : decode cX4_wet 0 = .ok (.aload_n 0, 1) := by decide +kernel
theorem dX4_wet_1 : decode cX4_wet 1 = .ok (.iload_n 1, 1) := by decide +kernel
theorem dX4_wet_2 : decode cX4_wet 2 = .ok (.invokevirtual 184, 3) := by decide +kernel
theorem dX4_wet_5 : decode cX4_wet 5 = .ok (.ifCond .eq 26, 3) := by decide +kernel
theorem dX4_wet_8 : decode cX4_wet 8 = .ok (.iconst 1, 1) := by decide +kernel
theorem dX4_wet_9 : decode cX4_wet 9 = .ok (.aload_n 0, 1) := by decide +kernel
theorem dX4_wet_10 : decode cX4_wet 10 = .ok (.iconst 1, 1) := by decide +kernel
theorem dX4_wet_11 : decode cX4_wet 11 = .ok (.bipush 14, 2) := by decide +kernel
theorem dX4_wet_13 : decode cX4_wet 13 = .ok (.iload_n 1, 1) := by decide +kernel
theorem dX4_wet_14 : decode cX4_wet 14 = .ok (.iadd, 1) := by decide +kernel
theorem dX4_wet_15 : decode cX4_wet 15 = .ok (.iload_n 2, 1) := by decide +kernel
theorem dX4_wet_16 : decode cX4_wet 16 = .ok (.ifCond .eq 7, 3) := by decide +kernel
theorem dX4_wet_19 : decode cX4_wet 19 = .ok (.iconst 0, 1) := by decide +kernel
theorem dX4_wet_20 : decode cX4_wet 20 = .ok (.goto 4, 3) := by decide +kernel
theorem dX4_wet_23 : decode cX4_wet 23 = .ok (.iconst 1, 1) := by decide +kernel
theorem dX4_wet_24 : decode cX4_wet 24 = .ok (.invokevirtual 200, 3) := by decide +kernel
theorem dX4_wet_27 : decode cX4_wet 27 = .ok (.isub, 1) := by decide +kernel
theorem dX4_wet_28 : decode cX4_wet 28 = .ok (.goto 4, 3) := by decide +kernel
theorem dX4_wet_31 : decode cX4_wet 31 = .ok (.iconst (-1), 1) := by decide +kernel
theorem dX4_wet_32 : decode cX4_wet 32 = .ok (.ireturn, 1) := by decide +kernel
theorem dX4_odd_0 : decode cX4_odd 0 = .ok (.aload_n 0, 1) := by decide +kernel
theorem dX4_odd_1 : decode cX4_odd 1 = .ok (.aload_n 0, 1) := by decide +kernel
theorem dX4_odd_2 : decode cX4_odd 2 = .ok (.iload_n 1, 1) := by decide +kernel
theorem dX4_odd_3 : decode cX4_odd 3 = .ok (.invokevirtual 184, 3) := by decide +kernel
theorem dX4_odd_6 : decode cX4_odd 6 = .ok (.ifCond .eq 19, 3) := by decide +kernel
theorem dX4_odd_9 : decode cX4_odd 9 = .ok (.iload_n 2, 1) := by decide +kernel
theorem dX4_odd_10 : decode cX4_odd 10 = .ok (.i2l, 1) := by decide +kernel
theorem dX4_odd_11 : decode cX4_odd 11 = .ok (.lconst 0, 1) := by decide +kernel
theorem dX4_odd_12 : decode cX4_odd 12 = .ok (.ldc2_w 214, 3) := by decide +kernel
theorem dX4_odd_15 : decode cX4_odd 15 = .ok (.invokestatic 59, 3) := by decide +kernel
theorem dX4_odd_18 : decode cX4_odd 18 = .ok (.ifCond .eq 7, 3) := by decide +kernel
theorem dX4_odd_21 : decode cX4_odd 21 = .ok (.iconst 1, 1) := by decide +kernel
theorem dX4_odd_22 : decode cX4_odd 22 = .ok (.goto 4, 3) := by decide +kernel
theorem dX4_odd_25 : decode cX4_odd 25 = .ok (.iconst 0, 1) := by decide +kernel
theorem dX4_odd_26 : decode cX4_odd 26 = .ok (.bipush 17, 2) := by decide +kernel
theorem dX4_odd_28 : decode cX4_odd 28 = .ok (.iload_n 1, 1) := by decide +kernel
theorem dX4_odd_29 : decode cX4_odd 29 = .ok (.iadd, 1) := by decide +kernel
theorem dX4_odd_30 : decode cX4_odd 30 = .ok (.iload_n 2, 1) := by decide +kernel
theorem dX4_odd_31 : decode cX4_odd 31 = .ok (.invokevirtual 200, 3) := by decide +kernel
theorem dX4_odd_34 : decode cX4_odd 34 = .ok (.ireturn, 1) := by decide +kernel
theorem dX4_lay_0 : decode cX4_lay 0 = .ok (.aload_n 0, 1) := by decide +kernel
theorem dX4_lay_1 : decode cX4_lay 1 = .ok (.iload_n 1, 1) := by decide +kernel
theorem dX4_lay_2 : decode cX4_lay 2 = .ok (.i2l, 1) := by decide +kernel
theorem dX4_lay_3 : decode cX4_lay 3 = .ok (.lconst 0, 1) := by decide +kernel
theorem dX4_lay_4 : decode cX4_lay 4 = .ok (.lconst 1, 1) := by decide +kernel
theorem dX4_lay_5 : decode cX4_lay 5 = .ok (.invokestatic 59, 3) := by decide +kernel
theorem dX4_lay_8 : decode cX4_lay 8 = .ok (.ifCond .eq 29, 3) := by decide +kernel
theorem dX4_lay_11 : decode cX4_lay 11 = .ok (.iload_n 2, 1) := by decide +kernel
theorem dX4_lay_12 : decode cX4_lay 12 = .ok (.i2l, 1) := by decide +kernel
theorem dX4_lay_13 : decode cX4_lay 13 = .ok (.lconst 0, 1) := by decide +kernel
theorem dX4_lay_14 : decode cX4_lay 14 = .ok (.iload_n 1, 1) := by decide +kernel
theorem dX4_lay_15 : decode cX4_lay 15 = .ok (.ifCond .ne 9, 3) := by decide +kernel
theorem dX4_lay_18 : decode cX4_lay 18 = .ok (.ldc2_w 216, 3) := by decide +kernel
theorem dX4_lay_21 : decode cX4_lay 21 = .ok (.goto 6, 3) := by decide +kernel
theorem dX4_lay_24 : decode cX4_lay 24 = .ok (.ldc2_w 214, 3) := by decide +kernel
theorem dX4_lay_27 : decode cX4_lay 27 = .ok (.invokestatic 59, 3) := by decide +kernel
theorem dX4_lay_30 : decode cX4_lay 30 = .ok (.ifCond .eq 7, 3) := by decide +kernel
theorem dX4_lay_33 : decode cX4_lay 33 = .ok (.iconst 1, 1) := by decide +kernel
theorem dX4_lay_34 : decode cX4_lay 34 = .ok (.goto 4, 3) := by decide +kernel
theorem dX4_lay_37 : decode cX4_lay 37 = .ok (.iconst 0, 1) := by decide +kernel
theorem dX4_lay_38 : decode cX4_lay 38 = .ok (.bipush 12, 2) := by decide +kernel
theorem dX4_lay_40 : decode cX4_lay 40 = .ok (.iload_n 1, 1) := by decide +kernel
theorem dX4_lay_41 : decode cX4_lay 41 = .ok (.iadd, 1) := by decide +kernel
theorem dX4_lay_42 : decode cX4_lay 42 = .ok (.iload_n 2, 1) := by decide +kernel
theorem dX4_lay_43 : decode cX4_lay 43 = .ok (.invokevirtual 200, 3) := by decide +kernel
theorem dX4_lay_46 : decode cX4_lay 46 = .ok (.ireturn, 1) := by decide +kernel
theorem dX4_isOver_0 : decode cX4_isOver 0 = .ok (.aload_n 0, 1) := by decide +kernel
theorem dX4_isOver_1 : decode cX4_isOver 1 = .ok (.getfield 7, 3) := by decide +kernel
theorem dX4_isOver_4 : decode cX4_isOver 4 = .ok (.iload_n 1, 1) := by decide +kernel
theorem dX4_isOver_5 : decode cX4_isOver 5 = .ok (.bipush 9, 2) := by decide +kernel
theorem dX4_isOver_7 : decode cX4_isOver 7 = .ok (.iadd, 1) := by decide +kernel
theorem dX4_isOver_8 : decode cX4_isOver 8 = .ok (.iaload, 1) := by decide +kernel
theorem dX4_isOver_9 : decode cX4_isOver 9 = .ok (.aload_n 0, 1) := by decide +kernel
theorem dX4_isOver_10 : decode cX4_isOver 10 = .ok (.getfield 19, 3) := by decide +kernel
theorem dX4_isOver_13 : decode cX4_isOver 13 = .ok (.if_icmp .ge 11, 3) := by decide +kernel
theorem dX4_isOver_16 : decode cX4_isOver 16 = .ok (.aload_n 0, 1) := by decide +kernel
theorem dX4_isOver_17 : decode cX4_isOver 17 = .ok (.iload_n 1, 1) := by decide +kernel
theorem dX4_isOver_18 : decode cX4_isOver 18 = .ok (.invokevirtual 218, 3) := by decide +kernel
theorem dX4_isOver_21 : decode cX4_isOver 21 = .ok (.ifCond .ne 7, 3) := by decide +kernel
theorem dX4_isOver_24 : decode cX4_isOver 24 = .ok (.iconst 1, 1) := by decide +kernel
theorem dX4_isOver_25 : decode cX4_isOver 25 = .ok (.goto 4, 3) := by decide +kernel
theorem dX4_isOver_28 : decode cX4_isOver 28 = .ok (.iconst 0, 1) := by decide +kernel
theorem dX4_isOver_29 : decode cX4_isOver 29 = .ok (.ireturn, 1) := by decide +kernel
theorem dX4_fillsOn_0 : decode cX4_fillsOn 0 = .ok (.aload_n 0, 1) := by decide +kernel
theorem dX4_fillsOn_1 : decode cX4_fillsOn 1 = .ok (.getfield 7, 3) := by decide +kernel
theorem dX4_fillsOn_4 : decode cX4_fillsOn 4 = .ok (.iload_n 1, 1) := by decide +kernel
theorem dX4_fillsOn_5 : decode cX4_fillsOn 5 = .ok (.bipush 8, 2) := by decide +kernel
theorem dX4_fillsOn_7 : decode cX4_fillsOn 7 = .ok (.iadd, 1) := by decide +kernel
theorem dX4_fillsOn_8 : decode cX4_fillsOn 8 = .ok (.iaload, 1) := by decide +kernel
theorem dX4_fillsOn_9 : decode cX4_fillsOn 9 = .ok (.iload_n 2, 1) := by decide +kernel
theorem dX4_fillsOn_10 : decode cX4_fillsOn 10 = .ok (.iadd, 1) := by decide +kernel
theorem dX4_fillsOn_11 : decode cX4_fillsOn 11 = .ok (.istore_n 3, 1) := by decide +kernel
theorem dX4_fillsOn_12 : decode cX4_fillsOn 12 = .ok (.aload_n 0, 1) := by decide +kernel
theorem dX4_fillsOn_13 : decode cX4_fillsOn 13 = .ok (.getfield 7, 3) := by decide +kernel
theorem dX4_fillsOn_16 : decode cX4_fillsOn 16 = .ok (.iload_n 1, 1) := by decide +kernel
theorem dX4_fillsOn_17 : decode cX4_fillsOn 17 = .ok (.bipush 8, 2) := by decide +kernel
theorem dX4_fillsOn_19 : decode cX4_fillsOn 19 = .ok (.iadd, 1) := by decide +kernel
theorem dX4_fillsOn_20 : decode cX4_fillsOn 20 = .ok (.iload_n 3, 1) := by decide +kernel
theorem dX4_fillsOn_21 : decode cX4_fillsOn 21 = .ok (.bipush 60, 2) := by decide +kernel
theorem dX4_fillsOn_23 : decode cX4_fillsOn 23 = .ok (.if_icmp .le 8, 3) := by decide +kernel
theorem dX4_fillsOn_26 : decode cX4_fillsOn 26 = .ok (.bipush 60, 2) := by decide +kernel
theorem dX4_fillsOn_28 : decode cX4_fillsOn 28 = .ok (.goto 4, 3) := by decide +kernel
theorem dX4_fillsOn_31 : decode cX4_fillsOn 31 = .ok (.iload_n 3, 1) := by decide +kernel
theorem dX4_fillsOn_32 : decode cX4_fillsOn 32 = .ok (.iastore, 1) := by decide +kernel
theorem dX4_fillsOn_33 : decode cX4_fillsOn 33 = .ok (.return_, 1) := by decide +kernel
theorem dX4_givesTo_0 : decode cX4_givesTo 0 = .ok (.iload_n 2, 1) := by decide +kernel
theorem dX4_givesTo_1 : decode cX4_givesTo 1 = .ok (.istore_n 3, 1) := by decide +kernel
theorem dX4_givesTo_2 : decode cX4_givesTo 2 = .ok (.aload_n 0, 1) := by decide +kernel
theorem dX4_givesTo_3 : decode cX4_givesTo 3 = .ok (.getfield 156, 3) := by decide +kernel
theorem dX4_givesTo_6 : decode cX4_givesTo 6 = .ok (.istore 4, 2) := by decide +kernel
theorem dX4_givesTo_8 : decode cX4_givesTo 8 = .ok (.iload 4, 2) := by decide +kernel
theorem dX4_givesTo_10 : decode cX4_givesTo 10 = .ok (.aload_n 0, 1) := by decide +kernel
theorem dX4_givesTo_11 : decode cX4_givesTo 11 = .ok (.getfield 156, 3) := by decide +kernel
theorem dX4_givesTo_14 : decode cX4_givesTo 14 = .ok (.aload_n 0, 1) := by decide +kernel
theorem dX4_givesTo_15 : decode cX4_givesTo 15 = .ok (.getfield 159, 3) := by decide +kernel
theorem dX4_givesTo_18 : decode cX4_givesTo 18 = .ok (.iadd, 1) := by decide +kernel
theorem dX4_givesTo_19 : decode cX4_givesTo 19 = .ok (.if_icmp .ge 62, 3) := by decide +kernel
theorem dX4_givesTo_22 : decode cX4_givesTo 22 = .ok (.aload_n 0, 1) := by decide +kernel
theorem dX4_givesTo_23 : decode cX4_givesTo 23 = .ok (.getfield 7, 3) := by decide +kernel
theorem dX4_givesTo_26 : decode cX4_givesTo 26 = .ok (.iload_n 1, 1) := by decide +kernel
theorem dX4_givesTo_27 : decode cX4_givesTo 27 = .ok (.iload_n 2, 1) := by decide +kernel
theorem dX4_givesTo_28 : decode cX4_givesTo 28 = .ok (.iadd, 1) := by decide +kernel
theorem dX4_givesTo_29 : decode cX4_givesTo 29 = .ok (.iaload, 1) := by decide +kernel
theorem dX4_givesTo_30 : decode cX4_givesTo 30 = .ok (.iconst 4, 1) := by decide +kernel
theorem dX4_givesTo_31 : decode cX4_givesTo 31 = .ok (.if_icmp .ne 50, 3) := by decide +kernel
theorem dX4_givesTo_34 : decode cX4_givesTo 34 = .ok (.aload_n 0, 1) := by decide +kernel
theorem dX4_givesTo_35 : decode cX4_givesTo 35 = .ok (.iload_n 1, 1) := by decide +kernel
theorem dX4_givesTo_36 : decode cX4_givesTo 36 = .ok (.iload 4, 2) := by decide +kernel
theorem dX4_givesTo_38 : decode cX4_givesTo 38 = .ok (.invokevirtual 167, 3) := by decide +kernel
theorem dX4_givesTo_41 : decode cX4_givesTo 41 = .ok (.ifCond .ne 32, 3) := by decide +kernel
theorem dX4_givesTo_44 : decode cX4_givesTo 44 = .ok (.aload_n 0, 1) := by decide +kernel
theorem dX4_givesTo_45 : decode cX4_givesTo 45 = .ok (.getfield 7, 3) := by decide +kernel
theorem dX4_givesTo_48 : decode cX4_givesTo 48 = .ok (.iload_n 1, 1) := by decide +kernel
theorem dX4_givesTo_49 : decode cX4_givesTo 49 = .ok (.iconst 4, 1) := by decide +kernel
theorem dX4_givesTo_50 : decode cX4_givesTo 50 = .ok (.iadd, 1) := by decide +kernel
theorem dX4_givesTo_51 : decode cX4_givesTo 51 = .ok (.iload 4, 2) := by decide +kernel
theorem dX4_givesTo_53 : decode cX4_givesTo 53 = .ok (.iadd, 1) := by decide +kernel
theorem dX4_givesTo_54 : decode cX4_givesTo 54 = .ok (.iaload, 1) := by decide +kernel
theorem dX4_givesTo_55 : decode cX4_givesTo 55 = .ok (.aload_n 0, 1) := by decide +kernel
theorem dX4_givesTo_56 : decode cX4_givesTo 56 = .ok (.getfield 7, 3) := by decide +kernel
theorem dX4_givesTo_59 : decode cX4_givesTo 59 = .ok (.iload_n 1, 1) := by decide +kernel
theorem dX4_givesTo_60 : decode cX4_givesTo 60 = .ok (.iconst 4, 1) := by decide +kernel
theorem dX4_givesTo_61 : decode cX4_givesTo 61 = .ok (.iadd, 1) := by decide +kernel
theorem dX4_givesTo_62 : decode cX4_givesTo 62 = .ok (.iload_n 3, 1) := by decide +kernel
theorem dX4_givesTo_63 : decode cX4_givesTo 63 = .ok (.iadd, 1) := by decide +kernel
theorem dX4_givesTo_64 : decode cX4_givesTo 64 = .ok (.iaload, 1) := by decide +kernel
theorem dX4_givesTo_65 : decode cX4_givesTo 65 = .ok (.if_icmp .ge 8, 3) := by decide +kernel
theorem dX4_givesTo_68 : decode cX4_givesTo 68 = .ok (.iload 4, 2) := by decide +kernel
theorem dX4_givesTo_70 : decode cX4_givesTo 70 = .ok (.goto 4, 3) := by decide +kernel
theorem dX4_givesTo_73 : decode cX4_givesTo 73 = .ok (.iload_n 3, 1) := by decide +kernel
theorem dX4_givesTo_74 : decode cX4_givesTo 74 = .ok (.istore_n 3, 1) := by decide +kernel
theorem dX4_givesTo_75 : decode cX4_givesTo 75 = .ok (.iinc 4 1, 3) := by decide +kernel
theorem dX4_givesTo_78 : decode cX4_givesTo 78 = .ok (.goto (-70), 3) := by decide +kernel
theorem dX4_givesTo_81 : decode cX4_givesTo 81 = .ok (.iload_n 3, 1) := by decide +kernel
theorem dX4_givesTo_82 : decode cX4_givesTo 82 = .ok (.ireturn, 1) := by decide +kernel
theorem dX4_allDrink_0 : decode cX4_allDrink 0 = .ok (.aload_n 0, 1) := by decide +kernel
theorem dX4_allDrink_1 : decode cX4_allDrink 1 = .ok (.iload_n 1, 1) := by decide +kernel
theorem dX4_allDrink_2 : decode cX4_allDrink 2 = .ok (.invokevirtual 174, 3) := by decide +kernel
theorem dX4_allDrink_5 : decode cX4_allDrink 5 = .ok (.aload_n 0, 1) := by decide +kernel
theorem dX4_allDrink_6 : decode cX4_allDrink 6 = .ok (.getfield 156, 3) := by decide +kernel
theorem dX4_allDrink_9 : decode cX4_allDrink 9 = .ok (.isub, 1) := by decide +kernel
theorem dX4_allDrink_10 : decode cX4_allDrink 10 = .ok (.istore_n 2, 1) := by decide +kernel
theorem dX4_allDrink_11 : decode cX4_allDrink 11 = .ok (.iconst 1, 1) := by decide +kernel
theorem dX4_allDrink_12 : decode cX4_allDrink 12 = .ok (.istore_n 3, 1) := by decide +kernel
theorem dX4_allDrink_13 : decode cX4_allDrink 13 = .ok (.iload_n 3, 1) := by decide +kernel
theorem dX4_allDrink_14 : decode cX4_allDrink 14 = .ok (.aload_n 0, 1) := by decide +kernel
theorem dX4_allDrink_15 : decode cX4_allDrink 15 = .ok (.getfield 159, 3) := by decide +kernel
theorem dX4_allDrink_18 : decode cX4_allDrink 18 = .ok (.if_icmp .gt 152, 3) := by decide +kernel
theorem dX4_allDrink_21 : decode cX4_allDrink 21 = .ok (.aload_n 0, 1) := by decide +kernel
theorem dX4_allDrink_22 : decode cX4_allDrink 22 = .ok (.getfield 156, 3) := by decide +kernel
theorem dX4_allDrink_25 : decode cX4_allDrink 25 = .ok (.iload_n 2, 1) := by decide +kernel
theorem dX4_allDrink_26 : decode cX4_allDrink 26 = .ok (.iload_n 3, 1) := by decide +kernel
theorem dX4_allDrink_27 : decode cX4_allDrink 27 = .ok (.iadd, 1) := by decide +kernel
theorem dX4_allDrink_28 : decode cX4_allDrink 28 = .ok (.aload_n 0, 1) := by decide +kernel
theorem dX4_allDrink_29 : decode cX4_allDrink 29 = .ok (.getfield 159, 3) := by decide +kernel
theorem dX4_allDrink_32 : decode cX4_allDrink 32 = .ok (.irem, 1) := by decide +kernel
theorem dX4_allDrink_33 : decode cX4_allDrink 33 = .ok (.iadd, 1) := by decide +kernel
theorem dX4_allDrink_34 : decode cX4_allDrink 34 = .ok (.istore 4, 2) := by decide +kernel
theorem dX4_allDrink_36 : decode cX4_allDrink 36 = .ok (.aload_n 0, 1) := by decide +kernel
theorem dX4_allDrink_37 : decode cX4_allDrink 37 = .ok (.iload_n 1, 1) := by decide +kernel
theorem dX4_allDrink_38 : decode cX4_allDrink 38 = .ok (.iload 4, 2) := by decide +kernel
theorem dX4_allDrink_40 : decode cX4_allDrink 40 = .ok (.invokevirtual 167, 3) := by decide +kernel
theorem dX4_allDrink_43 : decode cX4_allDrink 43 = .ok (.ifCond .ne 121, 3) := by decide +kernel
theorem dX4_allDrink_46 : decode cX4_allDrink 46 = .ok (.aload_n 0, 1) := by decide +kernel
theorem dX4_allDrink_47 : decode cX4_allDrink 47 = .ok (.iload_n 1, 1) := by decide +kernel
theorem dX4_allDrink_48 : decode cX4_allDrink 48 = .ok (.iload 4, 2) := by decide +kernel
theorem dX4_allDrink_50 : decode cX4_allDrink 50 = .ok (.invokevirtual 221, 3) := by decide +kernel
theorem dX4_allDrink_53 : decode cX4_allDrink 53 = .ok (.istore 5, 2) := by decide +kernel
theorem dX4_allDrink_55 : decode cX4_allDrink 55 = .ok (.aload_n 0, 1) := by decide +kernel
theorem dX4_allDrink_56 : decode cX4_allDrink 56 = .ok (.iload_n 1, 1) := by decide +kernel
theorem dX4_allDrink_57 : decode cX4_allDrink 57 = .ok (.iload 4, 2) := by decide +kernel
theorem dX4_allDrink_59 : decode cX4_allDrink 59 = .ok (.invokevirtual 181, 3) := by decide +kernel
theorem dX4_allDrink_62 : decode cX4_allDrink 62 = .ok (.istore 6, 2) := by decide +kernel
theorem dX4_allDrink_64 : decode cX4_allDrink 64 = .ok (.iload 6, 2) := by decide +kernel
theorem dX4_allDrink_66 : decode cX4_allDrink 66 = .ok (.bipush 20, 2) := by decide +kernel
theorem dX4_allDrink_68 : decode cX4_allDrink 68 = .ok (.aload_n 0, 1) := by decide +kernel
theorem dX4_allDrink_69 : decode cX4_allDrink 69 = .ok (.getfield 7, 3) := by decide +kernel
theorem dX4_allDrink_72 : decode cX4_allDrink 72 = .ok (.iload_n 1, 1) := by decide +kernel
theorem dX4_allDrink_73 : decode cX4_allDrink 73 = .ok (.iconst 4, 1) := by decide +kernel
theorem dX4_allDrink_74 : decode cX4_allDrink 74 = .ok (.iadd, 1) := by decide +kernel
theorem dX4_allDrink_75 : decode cX4_allDrink 75 = .ok (.iload 5, 2) := by decide +kernel
theorem dX4_allDrink_77 : decode cX4_allDrink 77 = .ok (.iadd, 1) := by decide +kernel
theorem dX4_allDrink_78 : decode cX4_allDrink 78 = .ok (.iaload, 1) := by decide +kernel
theorem dX4_allDrink_79 : decode cX4_allDrink 79 = .ok (.isub, 1) := by decide +kernel
theorem dX4_allDrink_80 : decode cX4_allDrink 80 = .ok (.if_icmp .ge 8, 3) := by decide +kernel
theorem dX4_allDrink_83 : decode cX4_allDrink 83 = .ok (.iload 6, 2) := by decide +kernel
theorem dX4_allDrink_85 : decode cX4_allDrink 85 = .ok (.goto 17, 3) := by decide +kernel
theorem dX4_allDrink_88 : decode cX4_allDrink 88 = .ok (.bipush 20, 2) := by decide +kernel
theorem dX4_allDrink_90 : decode cX4_allDrink 90 = .ok (.aload_n 0, 1) := by decide +kernel
theorem dX4_allDrink_91 : decode cX4_allDrink 91 = .ok (.getfield 7, 3) := by decide +kernel
theorem dX4_allDrink_94 : decode cX4_allDrink 94 = .ok (.iload_n 1, 1) := by decide +kernel
theorem dX4_allDrink_95 : decode cX4_allDrink 95 = .ok (.iconst 4, 1) := by decide +kernel
theorem dX4_allDrink_96 : decode cX4_allDrink 96 = .ok (.iadd, 1) := by decide +kernel
theorem dX4_allDrink_97 : decode cX4_allDrink 97 = .ok (.iload 5, 2) := by decide +kernel
theorem dX4_allDrink_99 : decode cX4_allDrink 99 = .ok (.iadd, 1) := by decide +kernel
theorem dX4_allDrink_100 : decode cX4_allDrink 100 = .ok (.iaload, 1) := by decide +kernel
theorem dX4_allDrink_101 : decode cX4_allDrink 101 = .ok (.isub, 1) := by decide +kernel
theorem dX4_allDrink_102 : decode cX4_allDrink 102 = .ok (.istore 6, 2) := by decide +kernel
theorem dX4_allDrink_104 : decode cX4_allDrink 104 = .ok (.iload 6, 2) := by decide +kernel
theorem dX4_allDrink_106 : decode cX4_allDrink 106 = .ok (.aload_n 0, 1) := by decide +kernel
theorem dX4_allDrink_107 : decode cX4_allDrink 107 = .ok (.getfield 7, 3) := by decide +kernel
theorem dX4_allDrink_110 : decode cX4_allDrink 110 = .ok (.iload_n 1, 1) := by decide +kernel
theorem dX4_allDrink_111 : decode cX4_allDrink 111 = .ok (.bipush 8, 2) := by decide +kernel
theorem dX4_allDrink_113 : decode cX4_allDrink 113 = .ok (.iadd, 1) := by decide +kernel
theorem dX4_allDrink_114 : decode cX4_allDrink 114 = .ok (.iaload, 1) := by decide +kernel
theorem dX4_allDrink_115 : decode cX4_allDrink 115 = .ok (.if_icmp .ge 8, 3) := by decide +kernel
theorem dX4_allDrink_118 : decode cX4_allDrink 118 = .ok (.iload 6, 2) := by decide +kernel
theorem dX4_allDrink_120 : decode cX4_allDrink 120 = .ok (.goto 12, 3) := by decide +kernel
theorem dX4_allDrink_123 : decode cX4_allDrink 123 = .ok (.aload_n 0, 1) := by decide +kernel
theorem dX4_allDrink_124 : decode cX4_allDrink 124 = .ok (.getfield 7, 3) := by decide +kernel
theorem dX4_allDrink_127 : decode cX4_allDrink 127 = .ok (.iload_n 1, 1) := by decide +kernel
theorem dX4_allDrink_128 : decode cX4_allDrink 128 = .ok (.bipush 8, 2) := by decide +kernel
theorem dX4_allDrink_130 : decode cX4_allDrink 130 = .ok (.iadd, 1) := by decide +kernel
theorem dX4_allDrink_131 : decode cX4_allDrink 131 = .ok (.iaload, 1) := by decide +kernel
theorem dX4_allDrink_132 : decode cX4_allDrink 132 = .ok (.istore 6, 2) := by decide +kernel
theorem dX4_allDrink_134 : decode cX4_allDrink 134 = .ok (.aload_n 0, 1) := by decide +kernel
theorem dX4_allDrink_135 : decode cX4_allDrink 135 = .ok (.getfield 7, 3) := by decide +kernel
theorem dX4_allDrink_138 : decode cX4_allDrink 138 = .ok (.iload_n 1, 1) := by decide +kernel
theorem dX4_allDrink_139 : decode cX4_allDrink 139 = .ok (.iconst 4, 1) := by decide +kernel
theorem dX4_allDrink_140 : decode cX4_allDrink 140 = .ok (.iadd, 1) := by decide +kernel
theorem dX4_allDrink_141 : decode cX4_allDrink 141 = .ok (.iload 5, 2) := by decide +kernel
theorem dX4_allDrink_143 : decode cX4_allDrink 143 = .ok (.iadd, 1) := by decide +kernel
theorem dX4_allDrink_144 : decode cX4_allDrink 144 = .ok (.dup2, 1) := by decide +kernel
theorem dX4_allDrink_145 : decode cX4_allDrink 145 = .ok (.iaload, 1) := by decide +kernel
theorem dX4_allDrink_146 : decode cX4_allDrink 146 = .ok (.iload 6, 2) := by decide +kernel
theorem dX4_allDrink_148 : decode cX4_allDrink 148 = .ok (.iadd, 1) := by decide +kernel
theorem dX4_allDrink_149 : decode cX4_allDrink 149 = .ok (.iastore, 1) := by decide +kernel
theorem dX4_allDrink_150 : decode cX4_allDrink 150 = .ok (.aload_n 0, 1) := by decide +kernel
theorem dX4_allDrink_151 : decode cX4_allDrink 151 = .ok (.getfield 7, 3) := by decide +kernel
theorem dX4_allDrink_154 : decode cX4_allDrink 154 = .ok (.iload_n 1, 1) := by decide +kernel
theorem dX4_allDrink_155 : decode cX4_allDrink 155 = .ok (.bipush 8, 2) := by decide +kernel
theorem dX4_allDrink_157 : decode cX4_allDrink 157 = .ok (.iadd, 1) := by decide +kernel
theorem dX4_allDrink_158 : decode cX4_allDrink 158 = .ok (.dup2, 1) := by decide +kernel
theorem dX4_allDrink_159 : decode cX4_allDrink 159 = .ok (.iaload, 1) := by decide +kernel
theorem dX4_allDrink_160 : decode cX4_allDrink 160 = .ok (.iload 6, 2) := by decide +kernel
theorem dX4_allDrink_162 : decode cX4_allDrink 162 = .ok (.isub, 1) := by decide +kernel
theorem dX4_allDrink_163 : decode cX4_allDrink 163 = .ok (.iastore, 1) := by decide +kernel
theorem dX4_allDrink_164 : decode cX4_allDrink 164 = .ok (.iinc 3 1, 3) := by decide +kernel
theorem dX4_allDrink_167 : decode cX4_allDrink 167 = .ok (.goto (-154), 3) := by decide +kernel
theorem dX4_allDrink_170 : decode cX4_allDrink 170 = .ok (.return_, 1) := by decide +kernel
theorem dX4_walksOn_0 : decode cX4_walksOn 0 = .ok (.iconst 0, 1) := by decide +kernel
theorem dX4_walksOn_1 : decode cX4_walksOn 1 = .ok (.istore_n 2, 1) := by decide +kernel
theorem dX4_walksOn_2 : decode cX4_walksOn 2 = .ok (.aload_n 0, 1) := by decide +kernel
theorem dX4_walksOn_3 : decode cX4_walksOn 3 = .ok (.getfield 156, 3) := by decide +kernel
theorem dX4_walksOn_6 : decode cX4_walksOn 6 = .ok (.istore_n 3, 1) := by decide +kernel
theorem dX4_walksOn_7 : decode cX4_walksOn 7 = .ok (.iload_n 3, 1) := by decide +kernel
theorem dX4_walksOn_8 : decode cX4_walksOn 8 = .ok (.aload_n 0, 1) := by decide +kernel
theorem dX4_walksOn_9 : decode cX4_walksOn 9 = .ok (.getfield 156, 3) := by decide +kernel
theorem dX4_walksOn_12 : decode cX4_walksOn 12 = .ok (.aload_n 0, 1) := by decide +kernel
theorem dX4_walksOn_13 : decode cX4_walksOn 13 = .ok (.getfield 159, 3) := by decide +kernel
theorem dX4_walksOn_16 : decode cX4_walksOn 16 = .ok (.iadd, 1) := by decide +kernel
theorem dX4_walksOn_17 : decode cX4_walksOn 17 = .ok (.if_icmp .ge 36, 3) := by decide +kernel
theorem dX4_walksOn_20 : decode cX4_walksOn 20 = .ok (.aload_n 0, 1) := by decide +kernel
theorem dX4_walksOn_21 : decode cX4_walksOn 21 = .ok (.getfield 7, 3) := by decide +kernel
theorem dX4_walksOn_24 : decode cX4_walksOn 24 = .ok (.iload_n 1, 1) := by decide +kernel
theorem dX4_walksOn_25 : decode cX4_walksOn 25 = .ok (.iconst 4, 1) := by decide +kernel
theorem dX4_walksOn_26 : decode cX4_walksOn 26 = .ok (.iadd, 1) := by decide +kernel
theorem dX4_walksOn_27 : decode cX4_walksOn 27 = .ok (.iload_n 3, 1) := by decide +kernel
theorem dX4_walksOn_28 : decode cX4_walksOn 28 = .ok (.iadd, 1) := by decide +kernel
theorem dX4_walksOn_29 : decode cX4_walksOn 29 = .ok (.iaload, 1) := by decide +kernel
theorem dX4_walksOn_30 : decode cX4_walksOn 30 = .ok (.i2l, 1) := by decide +kernel
theorem dX4_walksOn_31 : decode cX4_walksOn 31 = .ok (.lconst 1, 1) := by decide +kernel
theorem dX4_walksOn_32 : decode cX4_walksOn 32 = .ok (.ldc2_w 133, 3) := by decide +kernel
theorem dX4_walksOn_35 : decode cX4_walksOn 35 = .ok (.invokestatic 59, 3) := by decide +kernel
theorem dX4_walksOn_38 : decode cX4_walksOn 38 = .ok (.ifCond .eq 7, 3) := by decide +kernel
theorem dX4_walksOn_41 : decode cX4_walksOn 41 = .ok (.iconst 1, 1) := by decide +kernel
theorem dX4_walksOn_42 : decode cX4_walksOn 42 = .ok (.goto 4, 3) := by decide +kernel
theorem dX4_walksOn_45 : decode cX4_walksOn 45 = .ok (.iload_n 2, 1) := by decide +kernel
theorem dX4_walksOn_46 : decode cX4_walksOn 46 = .ok (.istore_n 2, 1) := by decide +kernel
theorem dX4_walksOn_47 : decode cX4_walksOn 47 = .ok (.iinc 3 1, 3) := by decide +kernel
theorem dX4_walksOn_50 : decode cX4_walksOn 50 = .ok (.goto (-43), 3) := by decide +kernel
theorem dX4_walksOn_53 : decode cX4_walksOn 53 = .ok (.aload_n 0, 1) := by decide +kernel
theorem dX4_walksOn_54 : decode cX4_walksOn 54 = .ok (.getfield 7, 3) := by decide +kernel
theorem dX4_walksOn_57 : decode cX4_walksOn 57 = .ok (.iload_n 1, 1) := by decide +kernel
theorem dX4_walksOn_58 : decode cX4_walksOn 58 = .ok (.bipush 9, 2) := by decide +kernel
theorem dX4_walksOn_60 : decode cX4_walksOn 60 = .ok (.iadd, 1) := by decide +kernel
theorem dX4_walksOn_61 : decode cX4_walksOn 61 = .ok (.iaload, 1) := by decide +kernel
theorem dX4_walksOn_62 : decode cX4_walksOn 62 = .ok (.istore_n 3, 1) := by decide +kernel
theorem dX4_walksOn_63 : decode cX4_walksOn 63 = .ok (.aload_n 0, 1) := by decide +kernel
theorem dX4_walksOn_64 : decode cX4_walksOn 64 = .ok (.getfield 7, 3) := by decide +kernel
theorem dX4_walksOn_67 : decode cX4_walksOn 67 = .ok (.iload_n 1, 1) := by decide +kernel
theorem dX4_walksOn_68 : decode cX4_walksOn 68 = .ok (.bipush 9, 2) := by decide +kernel
theorem dX4_walksOn_70 : decode cX4_walksOn 70 = .ok (.iadd, 1) := by decide +kernel
theorem dX4_walksOn_71 : decode cX4_walksOn 71 = .ok (.dup2, 1) := by decide +kernel
theorem dX4_walksOn_72 : decode cX4_walksOn 72 = .ok (.iaload, 1) := by decide +kernel
theorem dX4_walksOn_73 : decode cX4_walksOn 73 = .ok (.aload_n 0, 1) := by decide +kernel
theorem dX4_walksOn_74 : decode cX4_walksOn 74 = .ok (.iload_n 1, 1) := by decide +kernel
theorem dX4_walksOn_75 : decode cX4_walksOn 75 = .ok (.invokevirtual 191, 3) := by decide +kernel
theorem dX4_walksOn_78 : decode cX4_walksOn 78 = .ok (.ifCond .eq 7, 3) := by decide +kernel
theorem dX4_walksOn_81 : decode cX4_walksOn 81 = .ok (.iconst 2, 1) := by decide +kernel
theorem dX4_walksOn_82 : decode cX4_walksOn 82 = .ok (.goto 4, 3) := by decide +kernel
theorem dX4_walksOn_85 : decode cX4_walksOn 85 = .ok (.iconst 3, 1) := by decide +kernel
theorem dX4_walksOn_86 : decode cX4_walksOn 86 = .ok (.iload_n 2, 1) := by decide +kernel
theorem dX4_walksOn_87 : decode cX4_walksOn 87 = .ok (.isub, 1) := by decide +kernel
theorem dX4_walksOn_88 : decode cX4_walksOn 88 = .ok (.iadd, 1) := by decide +kernel
theorem dX4_walksOn_89 : decode cX4_walksOn 89 = .ok (.iastore, 1) := by decide +kernel
theorem dX4_walksOn_90 : decode cX4_walksOn 90 = .ok (.iconst 0, 1) := by decide +kernel
theorem dX4_walksOn_91 : decode cX4_walksOn 91 = .ok (.istore 4, 2) := by decide +kernel
theorem dX4_walksOn_93 : decode cX4_walksOn 93 = .ok (.iload 4, 2) := by decide +kernel
theorem dX4_walksOn_95 : decode cX4_walksOn 95 = .ok (.aload_n 0, 1) := by decide +kernel
theorem dX4_walksOn_96 : decode cX4_walksOn 96 = .ok (.getfield 153, 3) := by decide +kernel
theorem dX4_walksOn_99 : decode cX4_walksOn 99 = .ok (.if_icmp .ge 87, 3) := by decide +kernel
theorem dX4_walksOn_102 : decode cX4_walksOn 102 = .ok (.aload_n 0, 1) := by decide +kernel
theorem dX4_walksOn_103 : decode cX4_walksOn 103 = .ok (.getfield 16, 3) := by decide +kernel
theorem dX4_walksOn_106 : decode cX4_walksOn 106 = .ok (.iconst 2, 1) := by decide +kernel
theorem dX4_walksOn_107 : decode cX4_walksOn 107 = .ok (.iload 4, 2) := by decide +kernel
theorem dX4_walksOn_109 : decode cX4_walksOn 109 = .ok (.imul, 1) := by decide +kernel
theorem dX4_walksOn_110 : decode cX4_walksOn 110 = .ok (.iaload, 1) := by decide +kernel
theorem dX4_walksOn_111 : decode cX4_walksOn 111 = .ok (.iload_n 3, 1) := by decide +kernel
theorem dX4_walksOn_112 : decode cX4_walksOn 112 = .ok (.if_icmp .le 68, 3) := by decide +kernel
theorem dX4_walksOn_115 : decode cX4_walksOn 115 = .ok (.aload_n 0, 1) := by decide +kernel
theorem dX4_walksOn_116 : decode cX4_walksOn 116 = .ok (.getfield 16, 3) := by decide +kernel
theorem dX4_walksOn_119 : decode cX4_walksOn 119 = .ok (.iconst 2, 1) := by decide +kernel
theorem dX4_walksOn_120 : decode cX4_walksOn 120 = .ok (.iload 4, 2) := by decide +kernel
theorem dX4_walksOn_122 : decode cX4_walksOn 122 = .ok (.imul, 1) := by decide +kernel
theorem dX4_walksOn_123 : decode cX4_walksOn 123 = .ok (.iaload, 1) := by decide +kernel
theorem dX4_walksOn_124 : decode cX4_walksOn 124 = .ok (.aload_n 0, 1) := by decide +kernel
theorem dX4_walksOn_125 : decode cX4_walksOn 125 = .ok (.getfield 7, 3) := by decide +kernel
theorem dX4_walksOn_128 : decode cX4_walksOn 128 = .ok (.iload_n 1, 1) := by decide +kernel
theorem dX4_walksOn_129 : decode cX4_walksOn 129 = .ok (.bipush 9, 2) := by decide +kernel
theorem dX4_walksOn_131 : decode cX4_walksOn 131 = .ok (.iadd, 1) := by decide +kernel
theorem dX4_walksOn_132 : decode cX4_walksOn 132 = .ok (.iaload, 1) := by decide +kernel
theorem dX4_walksOn_133 : decode cX4_walksOn 133 = .ok (.if_icmp .gt 47, 3) := by decide +kernel
theorem dX4_walksOn_136 : decode cX4_walksOn 136 = .ok (.aload_n 0, 1) := by decide +kernel
theorem dX4_walksOn_137 : decode cX4_walksOn 137 = .ok (.getfield 7, 3) := by decide +kernel
theorem dX4_walksOn_140 : decode cX4_walksOn 140 = .ok (.iload_n 1, 1) := by decide +kernel
theorem dX4_walksOn_141 : decode cX4_walksOn 141 = .ok (.bipush 14, 2) := by decide +kernel
theorem dX4_walksOn_143 : decode cX4_walksOn 143 = .ok (.iadd, 1) := by decide +kernel
theorem dX4_walksOn_144 : decode cX4_walksOn 144 = .ok (.iload 4, 2) := by decide +kernel
theorem dX4_walksOn_146 : decode cX4_walksOn 146 = .ok (.iadd, 1) := by decide +kernel
theorem dX4_walksOn_147 : decode cX4_walksOn 147 = .ok (.iaload, 1) := by decide +kernel
theorem dX4_walksOn_148 : decode cX4_walksOn 148 = .ok (.ifCond .ne 32, 3) := by decide +kernel
theorem dX4_walksOn_151 : decode cX4_walksOn 151 = .ok (.aload_n 0, 1) := by decide +kernel
theorem dX4_walksOn_152 : decode cX4_walksOn 152 = .ok (.iload_n 1, 1) := by decide +kernel
theorem dX4_walksOn_153 : decode cX4_walksOn 153 = .ok (.aload_n 0, 1) := by decide +kernel
theorem dX4_walksOn_154 : decode cX4_walksOn 154 = .ok (.getfield 16, 3) := by decide +kernel
theorem dX4_walksOn_157 : decode cX4_walksOn 157 = .ok (.iconst 2, 1) := by decide +kernel
theorem dX4_walksOn_158 : decode cX4_walksOn 158 = .ok (.iload 4, 2) := by decide +kernel
theorem dX4_walksOn_160 : decode cX4_walksOn 160 = .ok (.imul, 1) := by decide +kernel
theorem dX4_walksOn_161 : decode cX4_walksOn 161 = .ok (.iconst 1, 1) := by decide +kernel
theorem dX4_walksOn_162 : decode cX4_walksOn 162 = .ok (.iadd, 1) := by decide +kernel
theorem dX4_walksOn_163 : decode cX4_walksOn 163 = .ok (.iaload, 1) := by decide +kernel
theorem dX4_walksOn_164 : decode cX4_walksOn 164 = .ok (.invokevirtual 224, 3) := by decide +kernel
theorem dX4_walksOn_167 : decode cX4_walksOn 167 = .ok (.aload_n 0, 1) := by decide +kernel
theorem dX4_walksOn_168 : decode cX4_walksOn 168 = .ok (.getfield 7, 3) := by decide +kernel
theorem dX4_walksOn_171 : decode cX4_walksOn 171 = .ok (.iload_n 1, 1) := by decide +kernel
theorem dX4_walksOn_172 : decode cX4_walksOn 172 = .ok (.bipush 14, 2) := by decide +kernel
theorem dX4_walksOn_174 : decode cX4_walksOn 174 = .ok (.iadd, 1) := by decide +kernel
theorem dX4_walksOn_175 : decode cX4_walksOn 175 = .ok (.iload 4, 2) := by decide +kernel
theorem dX4_walksOn_177 : decode cX4_walksOn 177 = .ok (.iadd, 1) := by decide +kernel
theorem dX4_walksOn_178 : decode cX4_walksOn 178 = .ok (.iconst 1, 1) := by decide +kernel
theorem dX4_walksOn_179 : decode cX4_walksOn 179 = .ok (.iastore, 1) := by decide +kernel
theorem dX4_walksOn_180 : decode cX4_walksOn 180 = .ok (.iinc 4 1, 3) := by decide +kernel
theorem dX4_walksOn_183 : decode cX4_walksOn 183 = .ok (.goto (-90), 3) := by decide +kernel
theorem dX4_walksOn_186 : decode cX4_walksOn 186 = .ok (.return_, 1) := by decide +kernel
theorem dX4_anHour_0 : decode cX4_anHour 0 = .ok (.aload_n 0, 1) := by decide +kernel
theorem dX4_anHour_1 : decode cX4_anHour 1 = .ok (.iload_n 1, 1) := by decide +kernel
theorem dX4_anHour_2 : decode cX4_anHour 2 = .ok (.invokevirtual 228, 3) := by decide +kernel
theorem dX4_anHour_5 : decode cX4_anHour 5 = .ok (.ifCond .ne 116, 3) := by decide +kernel
theorem dX4_anHour_8 : decode cX4_anHour 8 = .ok (.aload_n 0, 1) := by decide +kernel
theorem dX4_anHour_9 : decode cX4_anHour 9 = .ok (.iload_n 1, 1) := by decide +kernel
theorem dX4_anHour_10 : decode cX4_anHour 10 = .ok (.invokevirtual 171, 3) := by decide +kernel
theorem dX4_anHour_13 : decode cX4_anHour 13 = .ok (.bipush 24, 2) := by decide +kernel
theorem dX4_anHour_15 : decode cX4_anHour 15 = .ok (.irem, 1) := by decide +kernel
theorem dX4_anHour_16 : decode cX4_anHour 16 = .ok (.iconst 4, 1) := by decide +kernel
theorem dX4_anHour_17 : decode cX4_anHour 17 = .ok (.if_icmp .ne 17, 3) := by decide +kernel
theorem dX4_anHour_20 : decode cX4_anHour 20 = .ok (.aload_n 0, 1) := by decide +kernel
theorem dX4_anHour_21 : decode cX4_anHour 21 = .ok (.iload_n 1, 1) := by decide +kernel
theorem dX4_anHour_22 : decode cX4_anHour 22 = .ok (.aload_n 0, 1) := by decide +kernel
theorem dX4_anHour_23 : decode cX4_anHour 23 = .ok (.getfield 7, 3) := by decide +kernel
theorem dX4_anHour_26 : decode cX4_anHour 26 = .ok (.iload_n 1, 1) := by decide +kernel
theorem dX4_anHour_27 : decode cX4_anHour 27 = .ok (.bipush 12, 2) := by decide +kernel
theorem dX4_anHour_29 : decode cX4_anHour 29 = .ok (.iadd, 1) := by decide +kernel
theorem dX4_anHour_30 : decode cX4_anHour 30 = .ok (.iaload, 1) := by decide +kernel
theorem dX4_anHour_31 : decode cX4_anHour 31 = .ok (.invokevirtual 224, 3) := by decide +kernel
theorem dX4_anHour_34 : decode cX4_anHour 34 = .ok (.aload_n 0, 1) := by decide +kernel
theorem dX4_anHour_35 : decode cX4_anHour 35 = .ok (.iload_n 1, 1) := by decide +kernel
theorem dX4_anHour_36 : decode cX4_anHour 36 = .ok (.invokevirtual 231, 3) := by decide +kernel
theorem dX4_anHour_39 : decode cX4_anHour 39 = .ok (.aload_n 0, 1) := by decide +kernel
theorem dX4_anHour_40 : decode cX4_anHour 40 = .ok (.getfield 156, 3) := by decide +kernel
theorem dX4_anHour_43 : decode cX4_anHour 43 = .ok (.istore_n 3, 1) := by decide +kernel
theorem dX4_anHour_44 : decode cX4_anHour 44 = .ok (.iload_n 3, 1) := by decide +kernel
theorem dX4_anHour_45 : decode cX4_anHour 45 = .ok (.aload_n 0, 1) := by decide +kernel
theorem dX4_anHour_46 : decode cX4_anHour 46 = .ok (.getfield 156, 3) := by decide +kernel
theorem dX4_anHour_49 : decode cX4_anHour 49 = .ok (.aload_n 0, 1) := by decide +kernel
theorem dX4_anHour_50 : decode cX4_anHour 50 = .ok (.getfield 159, 3) := by decide +kernel
theorem dX4_anHour_53 : decode cX4_anHour 53 = .ok (.iadd, 1) := by decide +kernel
theorem dX4_anHour_54 : decode cX4_anHour 54 = .ok (.if_icmp .ge 50, 3) := by decide +kernel
theorem dX4_anHour_57 : decode cX4_anHour 57 = .ok (.aload_n 0, 1) := by decide +kernel
theorem dX4_anHour_58 : decode cX4_anHour 58 = .ok (.getfield 7, 3) := by decide +kernel
theorem dX4_anHour_61 : decode cX4_anHour 61 = .ok (.iload_n 1, 1) := by decide +kernel
theorem dX4_anHour_62 : decode cX4_anHour 62 = .ok (.iconst 4, 1) := by decide +kernel
theorem dX4_anHour_63 : decode cX4_anHour 63 = .ok (.iadd, 1) := by decide +kernel
theorem dX4_anHour_64 : decode cX4_anHour 64 = .ok (.iload_n 3, 1) := by decide +kernel
theorem dX4_anHour_65 : decode cX4_anHour 65 = .ok (.iadd, 1) := by decide +kernel
theorem dX4_anHour_66 : decode cX4_anHour 66 = .ok (.iaload, 1) := by decide +kernel
theorem dX4_anHour_67 : decode cX4_anHour 67 = .ok (.aload_n 0, 1) := by decide +kernel
theorem dX4_anHour_68 : decode cX4_anHour 68 = .ok (.iload_n 1, 1) := by decide +kernel
theorem dX4_anHour_69 : decode cX4_anHour 69 = .ok (.iload_n 3, 1) := by decide +kernel
theorem dX4_anHour_70 : decode cX4_anHour 70 = .ok (.iload_n 2, 1) := by decide +kernel
theorem dX4_anHour_71 : decode cX4_anHour 71 = .ok (.invokevirtual 194, 3) := by decide +kernel
theorem dX4_anHour_74 : decode cX4_anHour 74 = .ok (.isub, 1) := by decide +kernel
theorem dX4_anHour_75 : decode cX4_anHour 75 = .ok (.istore 4, 2) := by decide +kernel
theorem dX4_anHour_77 : decode cX4_anHour 77 = .ok (.aload_n 0, 1) := by decide +kernel
theorem dX4_anHour_78 : decode cX4_anHour 78 = .ok (.getfield 7, 3) := by decide +kernel
theorem dX4_anHour_81 : decode cX4_anHour 81 = .ok (.iload_n 1, 1) := by decide +kernel
theorem dX4_anHour_82 : decode cX4_anHour 82 = .ok (.iconst 4, 1) := by decide +kernel
theorem dX4_anHour_83 : decode cX4_anHour 83 = .ok (.iadd, 1) := by decide +kernel
theorem dX4_anHour_84 : decode cX4_anHour 84 = .ok (.iload_n 3, 1) := by decide +kernel
theorem dX4_anHour_85 : decode cX4_anHour 85 = .ok (.iadd, 1) := by decide +kernel
theorem dX4_anHour_86 : decode cX4_anHour 86 = .ok (.iload 4, 2) := by decide +kernel
theorem dX4_anHour_88 : decode cX4_anHour 88 = .ok (.ifCond .le 8, 3) := by decide +kernel
theorem dX4_anHour_91 : decode cX4_anHour 91 = .ok (.iload 4, 2) := by decide +kernel
theorem dX4_anHour_93 : decode cX4_anHour 93 = .ok (.goto 4, 3) := by decide +kernel
theorem dX4_anHour_96 : decode cX4_anHour 96 = .ok (.iconst 0, 1) := by decide +kernel
theorem dX4_anHour_97 : decode cX4_anHour 97 = .ok (.iastore, 1) := by decide +kernel
theorem dX4_anHour_98 : decode cX4_anHour 98 = .ok (.iinc 3 1, 3) := by decide +kernel
theorem dX4_anHour_101 : decode cX4_anHour 101 = .ok (.goto (-57), 3) := by decide +kernel
theorem dX4_anHour_104 : decode cX4_anHour 104 = .ok (.iload_n 2, 1) := by decide +kernel
theorem dX4_anHour_105 : decode cX4_anHour 105 = .ok (.ifCond .eq 16, 3) := by decide +kernel
theorem dX4_anHour_108 : decode cX4_anHour 108 = .ok (.aload_n 0, 1) := by decide +kernel
theorem dX4_anHour_109 : decode cX4_anHour 109 = .ok (.iload_n 1, 1) := by decide +kernel
theorem dX4_anHour_110 : decode cX4_anHour 110 = .ok (.invokevirtual 218, 3) := by decide +kernel
theorem dX4_anHour_113 : decode cX4_anHour 113 = .ok (.ifCond .le 8, 3) := by decide +kernel
theorem dX4_anHour_116 : decode cX4_anHour 116 = .ok (.aload_n 0, 1) := by decide +kernel
theorem dX4_anHour_117 : decode cX4_anHour 117 = .ok (.iload_n 1, 1) := by decide +kernel
theorem dX4_anHour_118 : decode cX4_anHour 118 = .ok (.invokevirtual 234, 3) := by decide +kernel
theorem dX4_anHour_121 : decode cX4_anHour 121 = .ok (.aload_n 0, 1) := by decide +kernel
theorem dX4_anHour_122 : decode cX4_anHour 122 = .ok (.getfield 7, 3) := by decide +kernel
theorem dX4_anHour_125 : decode cX4_anHour 125 = .ok (.iload_n 1, 1) := by decide +kernel
theorem dX4_anHour_126 : decode cX4_anHour 126 = .ok (.bipush 10, 2) := by decide +kernel
theorem dX4_anHour_128 : decode cX4_anHour 128 = .ok (.iadd, 1) := by decide +kernel
theorem dX4_anHour_129 : decode cX4_anHour 129 = .ok (.dup2, 1) := by decide +kernel
theorem dX4_anHour_130 : decode cX4_anHour 130 = .ok (.iaload, 1) := by decide +kernel
theorem dX4_anHour_131 : decode cX4_anHour 131 = .ok (.iconst 1, 1) := by decide +kernel
theorem dX4_anHour_132 : decode cX4_anHour 132 = .ok (.iadd, 1) := by decide +kernel
theorem dX4_anHour_133 : decode cX4_anHour 133 = .ok (.iastore, 1) := by decide +kernel
theorem dX4_anHour_134 : decode cX4_anHour 134 = .ok (.return_, 1) := by decide +kernel
theorem dX4_isWalking_0 : decode cX4_isWalking 0 = .ok (.iload_n 2, 1) := by decide +kernel
theorem dX4_isWalking_1 : decode cX4_isWalking 1 = .ok (.iconst 2, 1) := by decide +kernel
theorem dX4_isWalking_2 : decode cX4_isWalking 2 = .ok (.if_icmp .eq 26, 3) := by decide +kernel
theorem dX4_isWalking_5 : decode cX4_isWalking 5 = .ok (.iload_n 2, 1) := by decide +kernel
theorem dX4_isWalking_6 : decode cX4_isWalking 6 = .ok (.iconst 2, 1) := by decide +kernel
theorem dX4_isWalking_7 : decode cX4_isWalking 7 = .ok (.if_icmp .ge 25, 3) := by decide +kernel
theorem dX4_isWalking_10 : decode cX4_isWalking 10 = .ok (.iload_n 2, 1) := by decide +kernel
theorem dX4_isWalking_11 : decode cX4_isWalking 11 = .ok (.iconst 1, 1) := by decide +kernel
theorem dX4_isWalking_12 : decode cX4_isWalking 12 = .ok (.if_icmp .ne 7, 3) := by decide +kernel
theorem dX4_isWalking_15 : decode cX4_isWalking 15 = .ok (.iconst 1, 1) := by decide +kernel
theorem dX4_isWalking_16 : decode cX4_isWalking 16 = .ok (.goto 4, 3) := by decide +kernel
theorem dX4_isWalking_19 : decode cX4_isWalking 19 = .ok (.iconst 0, 1) := by decide +kernel
theorem dX4_isWalking_20 : decode cX4_isWalking 20 = .ok (.aload_n 0, 1) := by decide +kernel
theorem dX4_isWalking_21 : decode cX4_isWalking 21 = .ok (.iload_n 1, 1) := by decide +kernel
theorem dX4_isWalking_22 : decode cX4_isWalking 22 = .ok (.invokevirtual 191, 3) := by decide +kernel
theorem dX4_isWalking_25 : decode cX4_isWalking 25 = .ok (.if_icmp .ne 7, 3) := by decide +kernel
theorem dX4_isWalking_28 : decode cX4_isWalking 28 = .ok (.iconst 1, 1) := by decide +kernel
theorem dX4_isWalking_29 : decode cX4_isWalking 29 = .ok (.goto 4, 3) := by decide +kernel
theorem dX4_isWalking_32 : decode cX4_isWalking 32 = .ok (.iconst 0, 1) := by decide +kernel
theorem dX4_isWalking_33 : decode cX4_isWalking 33 = .ok (.ireturn, 1) := by decide +kernel
theorem dX4_goesOn_0 : decode cX4_goesOn 0 = .ok (.iconst 0, 1) := by decide +kernel
theorem dX4_goesOn_1 : decode cX4_goesOn 1 = .ok (.istore 4, 2) := by decide +kernel
theorem dX4_goesOn_3 : decode cX4_goesOn 3 = .ok (.iload 4, 2) := by decide +kernel
theorem dX4_goesOn_5 : decode cX4_goesOn 5 = .ok (.iload_n 2, 1) := by decide +kernel
theorem dX4_goesOn_6 : decode cX4_goesOn 6 = .ok (.if_icmp .ge 20, 3) := by decide +kernel
theorem dX4_goesOn_9 : decode cX4_goesOn 9 = .ok (.aload_n 0, 1) := by decide +kernel
theorem dX4_goesOn_10 : decode cX4_goesOn 10 = .ok (.iload_n 1, 1) := by decide +kernel
theorem dX4_goesOn_11 : decode cX4_goesOn 11 = .ok (.aload_n 0, 1) := by decide +kernel
theorem dX4_goesOn_12 : decode cX4_goesOn 12 = .ok (.iload_n 1, 1) := by decide +kernel
theorem dX4_goesOn_13 : decode cX4_goesOn 13 = .ok (.iload_n 3, 1) := by decide +kernel
theorem dX4_goesOn_14 : decode cX4_goesOn 14 = .ok (.invokevirtual 237, 3) := by decide +kernel
theorem dX4_goesOn_17 : decode cX4_goesOn 17 = .ok (.invokevirtual 240, 3) := by decide +kernel
theorem dX4_goesOn_20 : decode cX4_goesOn 20 = .ok (.iinc 4 1, 3) := by decide +kernel
theorem dX4_goesOn_23 : decode cX4_goesOn 23 = .ok (.goto (-20), 3) := by decide +kernel
theorem dX4_goesOn_26 : decode cX4_goesOn 26 = .ok (.return_, 1) := by decide +kernel
theorem dX4_copies_0 : decode cX4_copies 0 = .ok (.iconst 0, 1) := by decide +kernel
theorem dX4_copies_1 : decode cX4_copies 1 = .ok (.istore_n 3, 1) := by decide +kernel
theorem dX4_copies_2 : decode cX4_copies 2 = .ok (.iload_n 3, 1) := by decide +kernel
theorem dX4_copies_3 : decode cX4_copies 3 = .ok (.bipush 20, 2) := by decide +kernel
theorem dX4_copies_5 : decode cX4_copies 5 = .ok (.if_icmp .ge 25, 3) := by decide +kernel
theorem dX4_copies_8 : decode cX4_copies 8 = .ok (.aload_n 0, 1) := by decide +kernel
theorem dX4_copies_9 : decode cX4_copies 9 = .ok (.getfield 7, 3) := by decide +kernel
theorem dX4_copies_12 : decode cX4_copies 12 = .ok (.iload_n 2, 1) := by decide +kernel
theorem dX4_copies_13 : decode cX4_copies 13 = .ok (.iload_n 3, 1) := by decide +kernel
theorem dX4_copies_14 : decode cX4_copies 14 = .ok (.iadd, 1) := by decide +kernel
theorem dX4_copies_15 : decode cX4_copies 15 = .ok (.aload_n 0, 1) := by decide +kernel
theorem dX4_copies_16 : decode cX4_copies 16 = .ok (.getfield 7, 3) := by decide +kernel
theorem dX4_copies_19 : decode cX4_copies 19 = .ok (.iload_n 1, 1) := by decide +kernel
theorem dX4_copies_20 : decode cX4_copies 20 = .ok (.iload_n 3, 1) := by decide +kernel
theorem dX4_copies_21 : decode cX4_copies 21 = .ok (.iadd, 1) := by decide +kernel
theorem dX4_copies_22 : decode cX4_copies 22 = .ok (.iaload, 1) := by decide +kernel
theorem dX4_copies_23 : decode cX4_copies 23 = .ok (.iastore, 1) := by decide +kernel
theorem dX4_copies_24 : decode cX4_copies 24 = .ok (.iinc 3 1, 3) := by decide +kernel
theorem dX4_copies_27 : decode cX4_copies 27 = .ok (.goto (-25), 3) := by decide +kernel
theorem dX4_copies_30 : decode cX4_copies 30 = .ok (.return_, 1) := by decide +kernel
theorem dX4_go_0 : decode cX4_go 0 = .ok (.iload_n 1, 1) := by decide +kernel
theorem dX4_go_1 : decode cX4_go 1 = .ok (.i2l, 1) := by decide +kernel
theorem dX4_go_2 : decode cX4_go 2 = .ok (.lconst 0, 1) := by decide +kernel
theorem dX4_go_3 : decode cX4_go 3 = .ok (.ldc2_w 209, 3) := by decide +kernel
theorem dX4_go_6 : decode cX4_go 6 = .ok (.invokestatic 59, 3) := by decide +kernel
theorem dX4_go_9 : decode cX4_go 9 = .ok (.ifCond .ne 5, 3) := by decide +kernel
theorem dX4_go_12 : decode cX4_go 12 = .ok (.iconst (-1), 1) := by decide +kernel
theorem dX4_go_13 : decode cX4_go 13 = .ok (.ireturn, 1) := by decide +kernel
theorem dX4_go_14 : decode cX4_go 14 = .ok (.aload_n 0, 1) := by decide +kernel
theorem dX4_go_15 : decode cX4_go 15 = .ok (.iconst 0, 1) := by decide +kernel
theorem dX4_go_16 : decode cX4_go 16 = .ok (.invokevirtual 171, 3) := by decide +kernel
theorem dX4_go_19 : decode cX4_go 19 = .ok (.iload_n 1, 1) := by decide +kernel
theorem dX4_go_20 : decode cX4_go 20 = .ok (.iadd, 1) := by decide +kernel
theorem dX4_go_21 : decode cX4_go 21 = .ok (.sipush 999, 3) := by decide +kernel
theorem dX4_go_24 : decode cX4_go 24 = .ok (.if_icmp .le 6, 3) := by decide +kernel
theorem dX4_go_27 : decode cX4_go 27 = .ok (.bipush (-3), 2) := by decide +kernel
theorem dX4_go_29 : decode cX4_go 29 = .ok (.ireturn, 1) := by decide +kernel
theorem dX4_go_30 : decode cX4_go 30 = .ok (.aload_n 0, 1) := by decide +kernel
theorem dX4_go_31 : decode cX4_go 31 = .ok (.iconst 0, 1) := by decide +kernel
theorem dX4_go_32 : decode cX4_go 32 = .ok (.iload_n 1, 1) := by decide +kernel
theorem dX4_go_33 : decode cX4_go 33 = .ok (.aload_n 0, 1) := by decide +kernel
theorem dX4_go_34 : decode cX4_go 34 = .ok (.getfield 7, 3) := by decide +kernel
theorem dX4_go_37 : decode cX4_go 37 = .ok (.bipush 11, 2) := by decide +kernel
theorem dX4_go_39 : decode cX4_go 39 = .ok (.iaload, 1) := by decide +kernel
theorem dX4_go_40 : decode cX4_go 40 = .ok (.invokevirtual 244, 3) := by decide +kernel
theorem dX4_go_43 : decode cX4_go 43 = .ok (.aload_n 0, 1) := by decide +kernel
theorem dX4_go_44 : decode cX4_go 44 = .ok (.iconst 0, 1) := by decide +kernel
theorem dX4_go_45 : decode cX4_go 45 = .ok (.invokevirtual 218, 3) := by decide +kernel
theorem dX4_go_48 : decode cX4_go 48 = .ok (.ireturn, 1) := by decide +kernel
theorem dX4_ahead_0 : decode cX4_ahead 0 = .ok (.iload_n 1, 1) := by decide +kernel
theorem dX4_ahead_1 : decode cX4_ahead 1 = .ok (.i2l, 1) := by decide +kernel
theorem dX4_ahead_2 : decode cX4_ahead 2 = .ok (.lconst 0, 1) := by decide +kernel
theorem dX4_ahead_3 : decode cX4_ahead 3 = .ok (.ldc2_w 248, 3) := by decide +kernel
theorem dX4_ahead_6 : decode cX4_ahead 6 = .ok (.invokestatic 59, 3) := by decide +kernel
theorem dX4_ahead_9 : decode cX4_ahead 9 = .ok (.ifCond .eq 34, 3) := by decide +kernel
theorem dX4_ahead_12 : decode cX4_ahead 12 = .ok (.iload_n 2, 1) := by decide +kernel
theorem dX4_ahead_13 : decode cX4_ahead 13 = .ok (.i2l, 1) := by decide +kernel
theorem dX4_ahead_14 : decode cX4_ahead 14 = .ok (.lconst 0, 1) := by decide +kernel
theorem dX4_ahead_15 : decode cX4_ahead 15 = .ok (.ldc2_w 123, 3) := by decide +kernel
theorem dX4_ahead_18 : decode cX4_ahead 18 = .ok (.invokestatic 59, 3) := by decide +kernel
theorem dX4_ahead_21 : decode cX4_ahead 21 = .ok (.ifCond .ne 24, 3) := by decide +kernel
theorem dX4_ahead_24 : decode cX4_ahead 24 = .ok (.iload_n 2, 1) := by decide +kernel
theorem dX4_ahead_25 : decode cX4_ahead 25 = .ok (.i2l, 1) := by decide +kernel
theorem dX4_ahead_26 : decode cX4_ahead 26 = .ok (.ldc2_w 214, 3) := by decide +kernel
theorem dX4_ahead_29 : decode cX4_ahead 29 = .ok (.bipush 9, 2) := by decide +kernel
theorem dX4_ahead_31 : decode cX4_ahead 31 = .ok (.aload_n 0, 1) := by decide +kernel
theorem dX4_ahead_32 : decode cX4_ahead 32 = .ok (.getfield 150, 3) := by decide +kernel
theorem dX4_ahead_35 : decode cX4_ahead 35 = .ok (.iadd, 1) := by decide +kernel
theorem dX4_ahead_36 : decode cX4_ahead 36 = .ok (.i2l, 1) := by decide +kernel
theorem dX4_ahead_37 : decode cX4_ahead 37 = .ok (.invokestatic 59, 3) := by decide +kernel
theorem dX4_ahead_40 : decode cX4_ahead 40 = .ok (.ifCond .ne 5, 3) := by decide +kernel
theorem dX4_ahead_43 : decode cX4_ahead 43 = .ok (.iconst (-1), 1) := by decide +kernel
theorem dX4_ahead_44 : decode cX4_ahead 44 = .ok (.ireturn, 1) := by decide +kernel
theorem dX4_ahead_45 : decode cX4_ahead 45 = .ok (.aload_n 0, 1) := by decide +kernel
theorem dX4_ahead_46 : decode cX4_ahead 46 = .ok (.iconst 0, 1) := by decide +kernel
theorem dX4_ahead_47 : decode cX4_ahead 47 = .ok (.bipush 80, 2) := by decide +kernel
theorem dX4_ahead_49 : decode cX4_ahead 49 = .ok (.invokevirtual 250, 3) := by decide +kernel
theorem dX4_ahead_52 : decode cX4_ahead 52 = .ok (.aload_n 0, 1) := by decide +kernel
theorem dX4_ahead_53 : decode cX4_ahead 53 = .ok (.bipush 80, 2) := by decide +kernel
theorem dX4_ahead_55 : decode cX4_ahead 55 = .ok (.iload_n 1, 1) := by decide +kernel
theorem dX4_ahead_56 : decode cX4_ahead 56 = .ok (.aload_n 0, 1) := by decide +kernel
theorem dX4_ahead_57 : decode cX4_ahead 57 = .ok (.getfield 7, 3) := by decide +kernel
theorem dX4_ahead_60 : decode cX4_ahead 60 = .ok (.bipush 11, 2) := by decide +kernel
theorem dX4_ahead_62 : decode cX4_ahead 62 = .ok (.iaload, 1) := by decide +kernel
theorem dX4_ahead_63 : decode cX4_ahead 63 = .ok (.invokevirtual 244, 3) := by decide +kernel
theorem dX4_ahead_66 : decode cX4_ahead 66 = .ok (.iload_n 2, 1) := by decide +kernel
theorem dX4_ahead_67 : decode cX4_ahead 67 = .ok (.ifCond .ne 13, 3) := by decide +kernel
theorem dX4_ahead_70 : decode cX4_ahead 70 = .ok (.aload_n 0, 1) := by decide +kernel
theorem dX4_ahead_71 : decode cX4_ahead 71 = .ok (.getfield 7, 3) := by decide +kernel
theorem dX4_ahead_74 : decode cX4_ahead 74 = .ok (.bipush 89, 2) := by decide +kernel
theorem dX4_ahead_76 : decode cX4_ahead 76 = .ok (.iaload, 1) := by decide +kernel
theorem dX4_ahead_77 : decode cX4_ahead 77 = .ok (.goto 44, 3) := by decide +kernel
theorem dX4_ahead_80 : decode cX4_ahead 80 = .ok (.iload_n 2, 1) := by decide +kernel
theorem dX4_ahead_81 : decode cX4_ahead 81 = .ok (.iconst 1, 1) := by decide +kernel
theorem dX4_ahead_82 : decode cX4_ahead 82 = .ok (.if_icmp .ne 13, 3) := by decide +kernel
theorem dX4_ahead_85 : decode cX4_ahead 85 = .ok (.aload_n 0, 1) := by decide +kernel
theorem dX4_ahead_86 : decode cX4_ahead 86 = .ok (.getfield 7, 3) := by decide +kernel
theorem dX4_ahead_89 : decode cX4_ahead 89 = .ok (.bipush 88, 2) := by decide +kernel
theorem dX4_ahead_91 : decode cX4_ahead 91 = .ok (.iaload, 1) := by decide +kernel
theorem dX4_ahead_92 : decode cX4_ahead 92 = .ok (.goto 29, 3) := by decide +kernel
theorem dX4_ahead_95 : decode cX4_ahead 95 = .ok (.iload_n 2, 1) := by decide +kernel
theorem dX4_ahead_96 : decode cX4_ahead 96 = .ok (.iconst 2, 1) := by decide +kernel
theorem dX4_ahead_97 : decode cX4_ahead 97 = .ok (.if_icmp .ne 12, 3) := by decide +kernel
theorem dX4_ahead_100 : decode cX4_ahead 100 = .ok (.aload_n 0, 1) := by decide +kernel
theorem dX4_ahead_101 : decode cX4_ahead 101 = .ok (.bipush 80, 2) := by decide +kernel
theorem dX4_ahead_103 : decode cX4_ahead 103 = .ok (.invokevirtual 218, 3) := by decide +kernel
theorem dX4_ahead_106 : decode cX4_ahead 106 = .ok (.goto 15, 3) := by decide +kernel
theorem dX4_ahead_109 : decode cX4_ahead 109 = .ok (.aload_n 0, 1) := by decide +kernel
theorem dX4_ahead_110 : decode cX4_ahead 110 = .ok (.getfield 7, 3) := by decide +kernel
theorem dX4_ahead_113 : decode cX4_ahead 113 = .ok (.bipush 84, 2) := by decide +kernel
theorem dX4_ahead_115 : decode cX4_ahead 115 = .ok (.iload_n 2, 1) := by decide +kernel
theorem dX4_ahead_116 : decode cX4_ahead 116 = .ok (.iadd, 1) := by decide +kernel
theorem dX4_ahead_117 : decode cX4_ahead 117 = .ok (.bipush 10, 2) := by decide +kernel
theorem dX4_ahead_119 : decode cX4_ahead 119 = .ok (.isub, 1) := by decide +kernel
theorem dX4_ahead_120 : decode cX4_ahead 120 = .ok (.iaload, 1) := by decide +kernel
theorem dX4_ahead_121 : decode cX4_ahead 121 = .ok (.ireturn, 1) := by decide +kernel
theorem dX4_down_0 : decode cX4_down 0 = .ok (.aload_n 0, 1) := by decide +kernel
theorem dX4_down_1 : decode cX4_down 1 = .ok (.iload_n 1, 1) := by decide +kernel
theorem dX4_down_2 : decode cX4_down 2 = .ok (.invokevirtual 177, 3) := by decide +kernel
theorem dX4_down_5 : decode cX4_down 5 = .ok (.ifCond .ne 5, 3) := by decide +kernel
theorem dX4_down_8 : decode cX4_down 8 = .ok (.iconst (-1), 1) := by decide +kernel
theorem dX4_down_9 : decode cX4_down 9 = .ok (.ireturn, 1) := by decide +kernel
theorem dX4_down_10 : decode cX4_down 10 = .ok (.aload_n 0, 1) := by decide +kernel
theorem dX4_down_11 : decode cX4_down 11 = .ok (.iconst 0, 1) := by decide +kernel
theorem dX4_down_12 : decode cX4_down 12 = .ok (.bipush 80, 2) := by decide +kernel
theorem dX4_down_14 : decode cX4_down 14 = .ok (.invokevirtual 250, 3) := by decide +kernel
theorem dX4_down_17 : decode cX4_down 17 = .ok (.iconst 0, 1) := by decide +kernel
theorem dX4_down_18 : decode cX4_down 18 = .ok (.istore_n 2, 1) := by decide +kernel
theorem dX4_down_19 : decode cX4_down 19 = .ok (.iload_n 2, 1) := by decide +kernel
theorem dX4_down_20 : decode cX4_down 20 = .ok (.bipush 96, 2) := by decide +kernel
theorem dX4_down_22 : decode cX4_down 22 = .ok (.if_icmp .gt 35, 3) := by decide +kernel
theorem dX4_down_25 : decode cX4_down 25 = .ok (.aload_n 0, 1) := by decide +kernel
theorem dX4_down_26 : decode cX4_down 26 = .ok (.bipush 80, 2) := by decide +kernel
theorem dX4_down_28 : decode cX4_down 28 = .ok (.iload_n 1, 1) := by decide +kernel
theorem dX4_down_29 : decode cX4_down 29 = .ok (.invokevirtual 167, 3) := by decide +kernel
theorem dX4_down_32 : decode cX4_down 32 = .ok (.ifCond .eq 5, 3) := by decide +kernel
theorem dX4_down_35 : decode cX4_down 35 = .ok (.iload_n 2, 1) := by decide +kernel
theorem dX4_down_36 : decode cX4_down 36 = .ok (.ireturn, 1) := by decide +kernel
theorem dX4_down_37 : decode cX4_down 37 = .ok (.aload_n 0, 1) := by decide +kernel
theorem dX4_down_38 : decode cX4_down 38 = .ok (.bipush 80, 2) := by decide +kernel
theorem dX4_down_40 : decode cX4_down 40 = .ok (.iconst 1, 1) := by decide +kernel
theorem dX4_down_41 : decode cX4_down 41 = .ok (.aload_n 0, 1) := by decide +kernel
theorem dX4_down_42 : decode cX4_down 42 = .ok (.getfield 7, 3) := by decide +kernel
theorem dX4_down_45 : decode cX4_down 45 = .ok (.bipush 11, 2) := by decide +kernel
theorem dX4_down_47 : decode cX4_down 47 = .ok (.iaload, 1) := by decide +kernel
theorem dX4_down_48 : decode cX4_down 48 = .ok (.invokevirtual 244, 3) := by decide +kernel
theorem dX4_down_51 : decode cX4_down 51 = .ok (.iinc 2 1, 3) := by decide +kernel
theorem dX4_down_54 : decode cX4_down 54 = .ok (.goto (-35), 3) := by decide +kernel
theorem dX4_down_57 : decode cX4_down 57 = .ok (.bipush (-4), 2) := by decide +kernel
theorem dX4_down_59 : decode cX4_down 59 = .ok (.ireturn, 1) := by decide +kernel
theorem dX4_arriveFrom_0 : decode cX4_arriveFrom 0 = .ok (.aload_n 0, 1) := by decide +kernel
theorem dX4_arriveFrom_1 : decode cX4_arriveFrom 1 = .ok (.iload_n 1, 1) := by decide +kernel
theorem dX4_arriveFrom_2 : decode cX4_arriveFrom 2 = .ok (.bipush 80, 2) := by decide +kernel
theorem dX4_arriveFrom_4 : decode cX4_arriveFrom 4 = .ok (.invokevirtual 250, 3) := by decide +kernel
theorem dX4_arriveFrom_7 : decode cX4_arriveFrom 7 = .ok (.aload_n 0, 1) := by decide +kernel
theorem dX4_arriveFrom_8 : decode cX4_arriveFrom 8 = .ok (.iconst 0, 1) := by decide +kernel
theorem dX4_arriveFrom_9 : decode cX4_arriveFrom 9 = .ok (.putfield 253, 3) := by decide +kernel
theorem dX4_arriveFrom_12 : decode cX4_arriveFrom 12 = .ok (.aload_n 0, 1) := by decide +kernel
theorem dX4_arriveFrom_13 : decode cX4_arriveFrom 13 = .ok (.getfield 7, 3) := by decide +kernel
theorem dX4_arriveFrom_16 : decode cX4_arriveFrom 16 = .ok (.bipush 89, 2) := by decide +kernel
theorem dX4_arriveFrom_18 : decode cX4_arriveFrom 18 = .ok (.iaload, 1) := by decide +kernel
theorem dX4_arriveFrom_19 : decode cX4_arriveFrom 19 = .ok (.aload_n 0, 1) := by decide +kernel
theorem dX4_arriveFrom_20 : decode cX4_arriveFrom 20 = .ok (.getfield 19, 3) := by decide +kernel
theorem dX4_arriveFrom_23 : decode cX4_arriveFrom 23 = .ok (.if_icmp .ge 33, 3) := by decide +kernel
theorem dX4_arriveFrom_26 : decode cX4_arriveFrom 26 = .ok (.aload_n 0, 1) := by decide +kernel
theorem dX4_arriveFrom_27 : decode cX4_arriveFrom 27 = .ok (.getfield 253, 3) := by decide +kernel
theorem dX4_arriveFrom_30 : decode cX4_arriveFrom 30 = .ok (.bipush 96, 2) := by decide +kernel
theorem dX4_arriveFrom_32 : decode cX4_arriveFrom 32 = .ok (.if_icmp .ge 24, 3) := by decide +kernel
theorem dX4_arriveFrom_35 : decode cX4_arriveFrom 35 = .ok (.aload_n 0, 1) := by decide +kernel
theorem dX4_arriveFrom_36 : decode cX4_arriveFrom 36 = .ok (.bipush 80, 2) := by decide +kernel
theorem dX4_arriveFrom_38 : decode cX4_arriveFrom 38 = .ok (.iconst 1, 1) := by decide +kernel
theorem dX4_arriveFrom_39 : decode cX4_arriveFrom 39 = .ok (.iload_n 2, 1) := by decide +kernel
theorem dX4_arriveFrom_40 : decode cX4_arriveFrom 40 = .ok (.invokevirtual 244, 3) := by decide +kernel
theorem dX4_arriveFrom_43 : decode cX4_arriveFrom 43 = .ok (.aload_n 0, 1) := by decide +kernel
theorem dX4_arriveFrom_44 : decode cX4_arriveFrom 44 = .ok (.dup, 1) := by decide +kernel
theorem dX4_arriveFrom_45 : decode cX4_arriveFrom 45 = .ok (.getfield 253, 3) := by decide +kernel
theorem dX4_arriveFrom_48 : decode cX4_arriveFrom 48 = .ok (.iconst 1, 1) := by decide +kernel
theorem dX4_arriveFrom_49 : decode cX4_arriveFrom 49 = .ok (.iadd, 1) := by decide +kernel
theorem dX4_arriveFrom_50 : decode cX4_arriveFrom 50 = .ok (.putfield 253, 3) := by decide +kernel
theorem dX4_arriveFrom_53 : decode cX4_arriveFrom 53 = .ok (.goto (-41), 3) := by decide +kernel
theorem dX4_arriveFrom_56 : decode cX4_arriveFrom 56 = .ok (.aload_n 0, 1) := by decide +kernel
theorem dX4_arriveFrom_57 : decode cX4_arriveFrom 57 = .ok (.getfield 7, 3) := by decide +kernel
theorem dX4_arriveFrom_60 : decode cX4_arriveFrom 60 = .ok (.bipush 89, 2) := by decide +kernel
theorem dX4_arriveFrom_62 : decode cX4_arriveFrom 62 = .ok (.iaload, 1) := by decide +kernel
theorem dX4_arriveFrom_63 : decode cX4_arriveFrom 63 = .ok (.aload_n 0, 1) := by decide +kernel
theorem dX4_arriveFrom_64 : decode cX4_arriveFrom 64 = .ok (.getfield 19, 3) := by decide +kernel
theorem dX4_arriveFrom_67 : decode cX4_arriveFrom 67 = .ok (.if_icmp .lt 12, 3) := by decide +kernel
theorem dX4_arriveFrom_70 : decode cX4_arriveFrom 70 = .ok (.aload_n 0, 1) := by decide +kernel
theorem dX4_arriveFrom_71 : decode cX4_arriveFrom 71 = .ok (.bipush 80, 2) := by decide +kernel
theorem dX4_arriveFrom_73 : decode cX4_arriveFrom 73 = .ok (.invokevirtual 218, 3) := by decide +kernel
theorem dX4_arriveFrom_76 : decode cX4_arriveFrom 76 = .ok (.goto 4, 3) := by decide +kernel
theorem dX4_arriveFrom_79 : decode cX4_arriveFrom 79 = .ok (.iconst 0, 1) := by decide +kernel
theorem dX4_arriveFrom_80 : decode cX4_arriveFrom 80 = .ok (.ireturn, 1) := by decide +kernel
theorem dX4_arrive_0 : decode cX4_arrive 0 = .ok (.iload_n 1, 1) := by decide +kernel
theorem dX4_arrive_1 : decode cX4_arrive 1 = .ok (.invokestatic 211, 3) := by decide +kernel
theorem dX4_arrive_4 : decode cX4_arrive 4 = .ok (.ifCond .eq 13, 3) := by decide +kernel
theorem dX4_arrive_7 : decode cX4_arrive 7 = .ok (.iload_n 2, 1) := by decide +kernel
theorem dX4_arrive_8 : decode cX4_arrive 8 = .ok (.i2l, 1) := by decide +kernel
theorem dX4_arrive_9 : decode cX4_arrive 9 = .ok (.lconst 0, 1) := by decide +kernel
theorem dX4_arrive_10 : decode cX4_arrive 10 = .ok (.lconst 1, 1) := by decide +kernel
theorem dX4_arrive_11 : decode cX4_arrive 11 = .ok (.invokestatic 59, 3) := by decide +kernel
theorem dX4_arrive_14 : decode cX4_arrive 14 = .ok (.ifCond .ne 5, 3) := by decide +kernel
theorem dX4_arrive_17 : decode cX4_arrive 17 = .ok (.iconst (-1), 1) := by decide +kernel
theorem dX4_arrive_18 : decode cX4_arrive 18 = .ok (.ireturn, 1) := by decide +kernel
theorem dX4_arrive_19 : decode cX4_arrive 19 = .ok (.aload_n 0, 1) := by decide +kernel
theorem dX4_arrive_20 : decode cX4_arrive 20 = .ok (.iconst 0, 1) := by decide +kernel
theorem dX4_arrive_21 : decode cX4_arrive 21 = .ok (.iload_n 1, 1) := by decide +kernel
theorem dX4_arrive_22 : decode cX4_arrive 22 = .ok (.invokevirtual 256, 3) := by decide +kernel
theorem dX4_arrive_25 : decode cX4_arrive 25 = .ok (.istore_n 3, 1) := by decide +kernel
theorem dX4_arrive_26 : decode cX4_arrive 26 = .ok (.iload_n 2, 1) := by decide +kernel
theorem dX4_arrive_27 : decode cX4_arrive 27 = .ok (.ifCond .ne 7, 3) := by decide +kernel
theorem dX4_arrive_30 : decode cX4_arrive 30 = .ok (.iload_n 3, 1) := by decide +kernel
theorem dX4_arrive_31 : decode cX4_arrive 31 = .ok (.goto 16, 3) := by decide +kernel
theorem dX4_arrive_34 : decode cX4_arrive 34 = .ok (.iload_n 3, 1) := by decide +kernel
theorem dX4_arrive_35 : decode cX4_arrive 35 = .ok (.ifCond .ne 8, 3) := by decide +kernel
theorem dX4_arrive_38 : decode cX4_arrive 38 = .ok (.bipush (-4), 2) := by decide +kernel
theorem dX4_arrive_40 : decode cX4_arrive 40 = .ok (.goto 7, 3) := by decide +kernel
theorem dX4_arrive_43 : decode cX4_arrive 43 = .ok (.aload_n 0, 1) := by decide +kernel
theorem dX4_arrive_44 : decode cX4_arrive 44 = .ok (.getfield 253, 3) := by decide +kernel
theorem dX4_arrive_47 : decode cX4_arrive 47 = .ok (.ireturn, 1) := by decide +kernel
theorem dX4_best_0 : decode cX4_best 0 = .ok (.iload_n 1, 1) := by decide +kernel
theorem dX4_best_1 : decode cX4_best 1 = .ok (.i2l, 1) := by decide +kernel
theorem dX4_best_2 : decode cX4_best 2 = .ok (.lconst 0, 1) := by decide +kernel
theorem dX4_best_3 : decode cX4_best 3 = .ok (.lconst 1, 1) := by decide +kernel
theorem dX4_best_4 : decode cX4_best 4 = .ok (.invokestatic 59, 3) := by decide +kernel
theorem dX4_best_7 : decode cX4_best 7 = .ok (.ifCond .ne 5, 3) := by decide +kernel
theorem dX4_best_10 : decode cX4_best 10 = .ok (.iconst (-1), 1) := by decide +kernel
theorem dX4_best_11 : decode cX4_best 11 = .ok (.ireturn, 1) := by decide +kernel
theorem dX4_best_12 : decode cX4_best 12 = .ok (.iconst (-1), 1) := by decide +kernel
theorem dX4_best_13 : decode cX4_best 13 = .ok (.istore_n 2, 1) := by decide +kernel
theorem dX4_best_14 : decode cX4_best 14 = .ok (.iconst 0, 1) := by decide +kernel
theorem dX4_best_15 : decode cX4_best 15 = .ok (.istore_n 3, 1) := by decide +kernel
theorem dX4_best_16 : decode cX4_best 16 = .ok (.iconst 0, 1) := by decide +kernel
theorem dX4_best_17 : decode cX4_best 17 = .ok (.istore 4, 2) := by decide +kernel
theorem dX4_best_19 : decode cX4_best 19 = .ok (.iconst 0, 1) := by decide +kernel
theorem dX4_best_20 : decode cX4_best 20 = .ok (.istore 5, 2) := by decide +kernel
theorem dX4_best_22 : decode cX4_best 22 = .ok (.iload 5, 2) := by decide +kernel
theorem dX4_best_24 : decode cX4_best 24 = .ok (.iconst 3, 1) := by decide +kernel
theorem dX4_best_25 : decode cX4_best 25 = .ok (.if_icmp .ge 90, 3) := by decide +kernel
theorem dX4_best_28 : decode cX4_best 28 = .ok (.aload_n 0, 1) := by decide +kernel
theorem dX4_best_29 : decode cX4_best 29 = .ok (.iconst 0, 1) := by decide +kernel
theorem dX4_best_30 : decode cX4_best 30 = .ok (.iload 5, 2) := by decide +kernel
theorem dX4_best_32 : decode cX4_best 32 = .ok (.invokevirtual 256, 3) := by decide +kernel
theorem dX4_best_35 : decode cX4_best 35 = .ok (.istore 6, 2) := by decide +kernel
theorem dX4_best_37 : decode cX4_best 37 = .ok (.iload 6, 2) := by decide +kernel
theorem dX4_best_39 : decode cX4_best 39 = .ok (.iload_n 2, 1) := by decide +kernel
theorem dX4_best_40 : decode cX4_best 40 = .ok (.if_icmp .gt 22, 3) := by decide +kernel
theorem dX4_best_43 : decode cX4_best 43 = .ok (.iload 6, 2) := by decide +kernel
theorem dX4_best_45 : decode cX4_best 45 = .ok (.iload_n 2, 1) := by decide +kernel
theorem dX4_best_46 : decode cX4_best 46 = .ok (.if_icmp .ne 20, 3) := by decide +kernel
theorem dX4_best_49 : decode cX4_best 49 = .ok (.iload 6, 2) := by decide +kernel
theorem dX4_best_51 : decode cX4_best 51 = .ok (.ifCond .le 15, 3) := by decide +kernel
theorem dX4_best_54 : decode cX4_best 54 = .ok (.aload_n 0, 1) := by decide +kernel
theorem dX4_best_55 : decode cX4_best 55 = .ok (.getfield 253, 3) := by decide +kernel
theorem dX4_best_58 : decode cX4_best 58 = .ok (.iload_n 3, 1) := by decide +kernel
theorem dX4_best_59 : decode cX4_best 59 = .ok (.if_icmp .ge 7, 3) := by decide +kernel
theorem dX4_best_62 : decode cX4_best 62 = .ok (.iconst 1, 1) := by decide +kernel
theorem dX4_best_63 : decode cX4_best 63 = .ok (.goto 4, 3) := by decide +kernel
theorem dX4_best_66 : decode cX4_best 66 = .ok (.iconst 0, 1) := by decide +kernel
theorem dX4_best_67 : decode cX4_best 67 = .ok (.istore 7, 2) := by decide +kernel
theorem dX4_best_69 : decode cX4_best 69 = .ok (.iload 7, 2) := by decide +kernel
theorem dX4_best_71 : decode cX4_best 71 = .ok (.ifCond .eq 8, 3) := by decide +kernel
theorem dX4_best_74 : decode cX4_best 74 = .ok (.iload 5, 2) := by decide +kernel
theorem dX4_best_76 : decode cX4_best 76 = .ok (.goto 5, 3) := by decide +kernel
theorem dX4_best_79 : decode cX4_best 79 = .ok (.iload 4, 2) := by decide +kernel
theorem dX4_best_81 : decode cX4_best 81 = .ok (.istore 4, 2) := by decide +kernel
theorem dX4_best_83 : decode cX4_best 83 = .ok (.iload 7, 2) := by decide +kernel
theorem dX4_best_85 : decode cX4_best 85 = .ok (.ifCond .eq 8, 3) := by decide +kernel
theorem dX4_best_88 : decode cX4_best 88 = .ok (.iload 6, 2) := by decide +kernel
theorem dX4_best_90 : decode cX4_best 90 = .ok (.goto 4, 3) := by decide +kernel
theorem dX4_best_93 : decode cX4_best 93 = .ok (.iload_n 2, 1) := by decide +kernel
theorem dX4_best_94 : decode cX4_best 94 = .ok (.istore_n 2, 1) := by decide +kernel
theorem dX4_best_95 : decode cX4_best 95 = .ok (.iload 7, 2) := by decide +kernel
theorem dX4_best_97 : decode cX4_best 97 = .ok (.ifCond .eq 10, 3) := by decide +kernel
theorem dX4_best_100 : decode cX4_best 100 = .ok (.aload_n 0, 1) := by decide +kernel
theorem dX4_best_101 : decode cX4_best 101 = .ok (.getfield 253, 3) := by decide +kernel
theorem dX4_best_104 : decode cX4_best 104 = .ok (.goto 4, 3) := by decide +kernel
theorem dX4_best_107 : decode cX4_best 107 = .ok (.iload_n 3, 1) := by decide +kernel
theorem dX4_best_108 : decode cX4_best 108 = .ok (.istore_n 3, 1) := by decide +kernel
theorem dX4_best_109 : decode cX4_best 109 = .ok (.iinc 5 1, 3) := by decide +kernel
theorem dX4_best_112 : decode cX4_best 112 = .ok (.goto (-90), 3) := by decide +kernel
theorem dX4_best_115 : decode cX4_best 115 = .ok (.iload_n 1, 1) := by decide +kernel
theorem dX4_best_116 : decode cX4_best 116 = .ok (.ifCond .ne 8, 3) := by decide +kernel
theorem dX4_best_119 : decode cX4_best 119 = .ok (.iload 4, 2) := by decide +kernel
theorem dX4_best_121 : decode cX4_best 121 = .ok (.goto 4, 3) := by decide +kernel
theorem dX4_best_124 : decode cX4_best 124 = .ok (.iload_n 2, 1) := by decide +kernel
theorem dX4_best_125 : decode cX4_best 125 = .ok (.ireturn, 1) := by decide +kernel
theorem dX4_late_0 : decode cX4_late 0 = .ok (.iload_n 1, 1) := by decide +kernel
theorem dX4_late_1 : decode cX4_late 1 = .ok (.i2l, 1) := by decide +kernel
theorem dX4_late_2 : decode cX4_late 2 = .ok (.lconst 1, 1) := by decide +kernel
theorem dX4_late_3 : decode cX4_late 3 = .ok (.ldc2_w 198, 3) := by decide +kernel
theorem dX4_late_6 : decode cX4_late 6 = .ok (.invokestatic 59, 3) := by decide +kernel
theorem dX4_late_9 : decode cX4_late 9 = .ok (.ifCond .ne 5, 3) := by decide +kernel
theorem dX4_late_12 : decode cX4_late 12 = .ok (.iconst (-1), 1) := by decide +kernel
theorem dX4_late_13 : decode cX4_late 13 = .ok (.ireturn, 1) := by decide +kernel
theorem dX4_late_14 : decode cX4_late 14 = .ok (.bipush (-4), 2) := by decide +kernel
theorem dX4_late_16 : decode cX4_late 16 = .ok (.istore_n 2, 1) := by decide +kernel
theorem dX4_late_17 : decode cX4_late 17 = .ok (.aload_n 0, 1) := by decide +kernel
theorem dX4_late_18 : decode cX4_late 18 = .ok (.iconst 0, 1) := by decide +kernel
theorem dX4_late_19 : decode cX4_late 19 = .ok (.bipush 100, 2) := by decide +kernel
theorem dX4_late_21 : decode cX4_late 21 = .ok (.invokevirtual 250, 3) := by decide +kernel
theorem dX4_late_24 : decode cX4_late 24 = .ok (.iconst 0, 1) := by decide +kernel
theorem dX4_late_25 : decode cX4_late 25 = .ok (.istore_n 3, 1) := by decide +kernel
theorem dX4_late_26 : decode cX4_late 26 = .ok (.iload_n 3, 1) := by decide +kernel
theorem dX4_late_27 : decode cX4_late 27 = .ok (.bipush 72, 2) := by decide +kernel
theorem dX4_late_29 : decode cX4_late 29 = .ok (.if_icmp .gt 34, 3) := by decide +kernel
theorem dX4_late_32 : decode cX4_late 32 = .ok (.aload_n 0, 1) := by decide +kernel
theorem dX4_late_33 : decode cX4_late 33 = .ok (.bipush 100, 2) := by decide +kernel
theorem dX4_late_35 : decode cX4_late 35 = .ok (.iconst 2, 1) := by decide +kernel
theorem dX4_late_36 : decode cX4_late 36 = .ok (.invokevirtual 256, 3) := by decide +kernel
theorem dX4_late_39 : decode cX4_late 39 = .ok (.iload_n 1, 1) := by decide +kernel
theorem dX4_late_40 : decode cX4_late 40 = .ok (.if_icmp .lt 7, 3) := by decide +kernel
theorem dX4_late_43 : decode cX4_late 43 = .ok (.iload_n 3, 1) := by decide +kernel
theorem dX4_late_44 : decode cX4_late 44 = .ok (.goto 4, 3) := by decide +kernel
theorem dX4_late_47 : decode cX4_late 47 = .ok (.iload_n 2, 1) := by decide +kernel
theorem dX4_late_48 : decode cX4_late 48 = .ok (.istore_n 2, 1) := by decide +kernel
theorem dX4_late_49 : decode cX4_late 49 = .ok (.aload_n 0, 1) := by decide +kernel
theorem dX4_late_50 : decode cX4_late 50 = .ok (.bipush 100, 2) := by decide +kernel
theorem dX4_late_52 : decode cX4_late 52 = .ok (.iconst 1, 1) := by decide +kernel
theorem dX4_late_53 : decode cX4_late 53 = .ok (.iconst 3, 1) := by decide +kernel
theorem dX4_late_54 : decode cX4_late 54 = .ok (.invokevirtual 244, 3) := by decide +kernel
theorem dX4_late_57 : decode cX4_late 57 = .ok (.iinc 3 1, 3) := by decide +kernel
theorem dX4_late_60 : decode cX4_late 60 = .ok (.goto (-34), 3) := by decide +kernel
theorem dX4_late_63 : decode cX4_late 63 = .ok (.iload_n 2, 1) := by decide +kernel
theorem dX4_late_64 : decode cX4_late 64 = .ok (.ireturn, 1) := by decide +kernel
theorem dX4_least_0 : decode cX4_least 0 = .ok (.aload_n 0, 1) := by decide +kernel
theorem dX4_least_1 : decode cX4_least 1 = .ok (.iconst 0, 1) := by decide +kernel
theorem dX4_least_2 : decode cX4_least 2 = .ok (.bipush 100, 2) := by decide +kernel
theorem dX4_least_4 : decode cX4_least 4 = .ok (.invokevirtual 250, 3) := by decide +kernel
theorem dX4_least_7 : decode cX4_least 7 = .ok (.iconst 0, 1) := by decide +kernel
theorem dX4_least_8 : decode cX4_least 8 = .ok (.istore_n 1, 1) := by decide +kernel
theorem dX4_least_9 : decode cX4_least 9 = .ok (.iload_n 1, 1) := by decide +kernel
theorem dX4_least_10 : decode cX4_least 10 = .ok (.bipush 60, 2) := by decide +kernel
theorem dX4_least_12 : decode cX4_least 12 = .ok (.if_icmp .gt 54, 3) := by decide +kernel
theorem dX4_least_15 : decode cX4_least 15 = .ok (.aload_n 0, 1) := by decide +kernel
theorem dX4_least_16 : decode cX4_least 16 = .ok (.getfield 7, 3) := by decide +kernel
theorem dX4_least_19 : decode cX4_least 19 = .ok (.bipush 108, 2) := by decide +kernel
theorem dX4_least_21 : decode cX4_least 21 = .ok (.iload_n 1, 1) := by decide +kernel
theorem dX4_least_22 : decode cX4_least 22 = .ok (.iastore, 1) := by decide +kernel
theorem dX4_least_23 : decode cX4_least 23 = .ok (.aload_n 0, 1) := by decide +kernel
theorem dX4_least_24 : decode cX4_least 24 = .ok (.bipush 100, 2) := by decide +kernel
theorem dX4_least_26 : decode cX4_least 26 = .ok (.aload_n 0, 1) := by decide +kernel
theorem dX4_least_27 : decode cX4_least 27 = .ok (.getfield 7, 3) := by decide +kernel
theorem dX4_least_30 : decode cX4_least 30 = .ok (.bipush 11, 2) := by decide +kernel
theorem dX4_least_32 : decode cX4_least 32 = .ok (.iaload, 1) := by decide +kernel
theorem dX4_least_33 : decode cX4_least 33 = .ok (.invokevirtual 256, 3) := by decide +kernel
theorem dX4_least_36 : decode cX4_least 36 = .ok (.aload_n 0, 1) := by decide +kernel
theorem dX4_least_37 : decode cX4_least 37 = .ok (.iconst 0, 1) := by decide +kernel
theorem dX4_least_38 : decode cX4_least 38 = .ok (.invokevirtual 218, 3) := by decide +kernel
theorem dX4_least_41 : decode cX4_least 41 = .ok (.if_icmp .ne 19, 3) := by decide +kernel
theorem dX4_least_44 : decode cX4_least 44 = .ok (.aload_n 0, 1) := by decide +kernel
theorem dX4_least_45 : decode cX4_least 45 = .ok (.getfield 7, 3) := by decide +kernel
theorem dX4_least_48 : decode cX4_least 48 = .ok (.bipush 89, 2) := by decide +kernel
theorem dX4_least_50 : decode cX4_least 50 = .ok (.iaload, 1) := by decide +kernel
theorem dX4_least_51 : decode cX4_least 51 = .ok (.aload_n 0, 1) := by decide +kernel
theorem dX4_least_52 : decode cX4_least 52 = .ok (.getfield 19, 3) := by decide +kernel
theorem dX4_least_55 : decode cX4_least 55 = .ok (.if_icmp .lt 5, 3) := by decide +kernel
theorem dX4_least_58 : decode cX4_least 58 = .ok (.iload_n 1, 1) := by decide +kernel
theorem dX4_least_59 : decode cX4_least 59 = .ok (.ireturn, 1) := by decide +kernel
theorem dX4_least_60 : decode cX4_least 60 = .ok (.iinc 1 1, 3) := by decide +kernel
theorem dX4_least_63 : decode cX4_least 63 = .ok (.goto (-54), 3) := by decide +kernel
theorem dX4_least_66 : decode cX4_least 66 = .ok (.bipush (-4), 2) := by decide +kernel
theorem dX4_least_68 : decode cX4_least 68 = .ok (.ireturn, 1) := by decide +kernel
theorem dX4_alike_0 : decode cX4_alike 0 = .ok (.iload_n 1, 1) := by decide +kernel
theorem dX4_alike_1 : decode cX4_alike 1 = .ok (.i2l, 1) := by decide +kernel
theorem dX4_alike_2 : decode cX4_alike 2 = .ok (.lconst 0, 1) := by decide +kernel
theorem dX4_alike_3 : decode cX4_alike 3 = .ok (.ldc2_w 198, 3) := by decide +kernel
theorem dX4_alike_6 : decode cX4_alike 6 = .ok (.invokestatic 59, 3) := by decide +kernel
theorem dX4_alike_9 : decode cX4_alike 9 = .ok (.ifCond .ne 5, 3) := by decide +kernel
theorem dX4_alike_12 : decode cX4_alike 12 = .ok (.iconst (-1), 1) := by decide +kernel
theorem dX4_alike_13 : decode cX4_alike 13 = .ok (.ireturn, 1) := by decide +kernel
theorem dX4_alike_14 : decode cX4_alike 14 = .ok (.aload_n 0, 1) := by decide +kernel
theorem dX4_alike_15 : decode cX4_alike 15 = .ok (.iconst 0, 1) := by decide +kernel
theorem dX4_alike_16 : decode cX4_alike 16 = .ok (.bipush 100, 2) := by decide +kernel
theorem dX4_alike_18 : decode cX4_alike 18 = .ok (.invokevirtual 250, 3) := by decide +kernel
theorem dX4_alike_21 : decode cX4_alike 21 = .ok (.iconst 0, 1) := by decide +kernel
theorem dX4_alike_22 : decode cX4_alike 22 = .ok (.istore_n 2, 1) := by decide +kernel
theorem dX4_alike_23 : decode cX4_alike 23 = .ok (.iload_n 2, 1) := by decide +kernel
theorem dX4_alike_24 : decode cX4_alike 24 = .ok (.iconst 4, 1) := by decide +kernel
theorem dX4_alike_25 : decode cX4_alike 25 = .ok (.if_icmp .ge 19, 3) := by decide +kernel
theorem dX4_alike_28 : decode cX4_alike 28 = .ok (.aload_n 0, 1) := by decide +kernel
theorem dX4_alike_29 : decode cX4_alike 29 = .ok (.getfield 7, 3) := by decide +kernel
theorem dX4_alike_32 : decode cX4_alike 32 = .ok (.bipush 100, 2) := by decide +kernel
theorem dX4_alike_34 : decode cX4_alike 34 = .ok (.iload_n 2, 1) := by decide +kernel
theorem dX4_alike_35 : decode cX4_alike 35 = .ok (.iadd, 1) := by decide +kernel
theorem dX4_alike_36 : decode cX4_alike 36 = .ok (.iload_n 1, 1) := by decide +kernel
theorem dX4_alike_37 : decode cX4_alike 37 = .ok (.iastore, 1) := by decide +kernel
theorem dX4_alike_38 : decode cX4_alike 38 = .ok (.iinc 2 1, 3) := by decide +kernel
theorem dX4_alike_41 : decode cX4_alike 41 = .ok (.goto (-18), 3) := by decide +kernel
theorem dX4_alike_44 : decode cX4_alike 44 = .ok (.aload_n 0, 1) := by decide +kernel
theorem dX4_alike_45 : decode cX4_alike 45 = .ok (.bipush 100, 2) := by decide +kernel
theorem dX4_alike_47 : decode cX4_alike 47 = .ok (.aload_n 0, 1) := by decide +kernel
theorem dX4_alike_48 : decode cX4_alike 48 = .ok (.getfield 7, 3) := by decide +kernel
theorem dX4_alike_51 : decode cX4_alike 51 = .ok (.bipush 11, 2) := by decide +kernel
theorem dX4_alike_53 : decode cX4_alike 53 = .ok (.iaload, 1) := by decide +kernel
theorem dX4_alike_54 : decode cX4_alike 54 = .ok (.invokevirtual 256, 3) := by decide +kernel
theorem dX4_alike_57 : decode cX4_alike 57 = .ok (.ireturn, 1) := by decide +kernel
theorem dX4_alone_0 : decode cX4_alone 0 = .ok (.aload_n 0, 1) := by decide +kernel
theorem dX4_alone_1 : decode cX4_alone 1 = .ok (.iload_n 1, 1) := by decide +kernel
theorem dX4_alone_2 : decode cX4_alone 2 = .ok (.invokevirtual 177, 3) := by decide +kernel
theorem dX4_alone_5 : decode cX4_alone 5 = .ok (.ifCond .eq 15, 3) := by decide +kernel
theorem dX4_alone_8 : decode cX4_alone 8 = .ok (.iload_n 2, 1) := by decide +kernel
theorem dX4_alone_9 : decode cX4_alone 9 = .ok (.i2l, 1) := by decide +kernel
theorem dX4_alone_10 : decode cX4_alone 10 = .ok (.lconst 0, 1) := by decide +kernel
theorem dX4_alone_11 : decode cX4_alone 11 = .ok (.ldc2_w 204, 3) := by decide +kernel
theorem dX4_alone_14 : decode cX4_alone 14 = .ok (.invokestatic 59, 3) := by decide +kernel
theorem dX4_alone_17 : decode cX4_alone 17 = .ok (.ifCond .ne 5, 3) := by decide +kernel
theorem dX4_alone_20 : decode cX4_alone 20 = .ok (.iconst (-1), 1) := by decide +kernel
theorem dX4_alone_21 : decode cX4_alone 21 = .ok (.ireturn, 1) := by decide +kernel
theorem dX4_alone_22 : decode cX4_alone 22 = .ok (.aload_n 0, 1) := by decide +kernel
theorem dX4_alone_23 : decode cX4_alone 23 = .ok (.iconst 0, 1) := by decide +kernel
theorem dX4_alone_24 : decode cX4_alone 24 = .ok (.iload_n 1, 1) := by decide +kernel
theorem dX4_alone_25 : decode cX4_alone 25 = .ok (.invokevirtual 167, 3) := by decide +kernel
theorem dX4_alone_28 : decode cX4_alone 28 = .ok (.ifCond .eq 6, 3) := by decide +kernel
theorem dX4_alone_31 : decode cX4_alone 31 = .ok (.bipush (-2), 2) := by decide +kernel
theorem dX4_alone_33 : decode cX4_alone 33 = .ok (.ireturn, 1) := by decide +kernel
theorem dX4_alone_34 : decode cX4_alone 34 = .ok (.aload_n 0, 1) := by decide +kernel
theorem dX4_alone_35 : decode cX4_alone 35 = .ok (.iconst 0, 1) := by decide +kernel
theorem dX4_alone_36 : decode cX4_alone 36 = .ok (.bipush 100, 2) := by decide +kernel
theorem dX4_alone_38 : decode cX4_alone 38 = .ok (.invokevirtual 250, 3) := by decide +kernel
theorem dX4_alone_41 : decode cX4_alone 41 = .ok (.aload_n 0, 1) := by decide +kernel
theorem dX4_alone_42 : decode cX4_alone 42 = .ok (.getfield 7, 3) := by decide +kernel
theorem dX4_alone_45 : decode cX4_alone 45 = .ok (.bipush 108, 2) := by decide +kernel
theorem dX4_alone_47 : decode cX4_alone 47 = .ok (.iload_n 2, 1) := by decide +kernel
theorem dX4_alone_48 : decode cX4_alone 48 = .ok (.iastore, 1) := by decide +kernel
theorem dX4_alone_49 : decode cX4_alone 49 = .ok (.aload_n 0, 1) := by decide +kernel
theorem dX4_alone_50 : decode cX4_alone 50 = .ok (.iload_n 1, 1) := by decide +kernel
theorem dX4_alone_51 : decode cX4_alone 51 = .ok (.putfield 156, 3) := by decide +kernel
theorem dX4_alone_54 : decode cX4_alone 54 = .ok (.aload_n 0, 1) := by decide +kernel
theorem dX4_alone_55 : decode cX4_alone 55 = .ok (.iconst 1, 1) := by decide +kernel
theorem dX4_alone_56 : decode cX4_alone 56 = .ok (.putfield 159, 3) := by decide +kernel
theorem dX4_alone_59 : decode cX4_alone 59 = .ok (.aload_n 0, 1) := by decide +kernel
theorem dX4_alone_60 : decode cX4_alone 60 = .ok (.bipush 100, 2) := by decide +kernel
theorem dX4_alone_62 : decode cX4_alone 62 = .ok (.aload_n 0, 1) := by decide +kernel
theorem dX4_alone_63 : decode cX4_alone 63 = .ok (.getfield 7, 3) := by decide +kernel
theorem dX4_alone_66 : decode cX4_alone 66 = .ok (.bipush 11, 2) := by decide +kernel
theorem dX4_alone_68 : decode cX4_alone 68 = .ok (.iaload, 1) := by decide +kernel
theorem dX4_alone_69 : decode cX4_alone 69 = .ok (.invokevirtual 256, 3) := by decide +kernel
theorem dX4_alone_72 : decode cX4_alone 72 = .ok (.istore_n 3, 1) := by decide +kernel
theorem dX4_alone_73 : decode cX4_alone 73 = .ok (.aload_n 0, 1) := by decide +kernel
theorem dX4_alone_74 : decode cX4_alone 74 = .ok (.iconst 0, 1) := by decide +kernel
theorem dX4_alone_75 : decode cX4_alone 75 = .ok (.putfield 156, 3) := by decide +kernel
theorem dX4_alone_78 : decode cX4_alone 78 = .ok (.aload_n 0, 1) := by decide +kernel
theorem dX4_alone_79 : decode cX4_alone 79 = .ok (.aload_n 0, 1) := by decide +kernel
theorem dX4_alone_80 : decode cX4_alone 80 = .ok (.getfield 150, 3) := by decide +kernel
theorem dX4_alone_83 : decode cX4_alone 83 = .ok (.putfield 159, 3) := by decide +kernel
theorem dX4_alone_86 : decode cX4_alone 86 = .ok (.iload_n 3, 1) := by decide +kernel
theorem dX4_alone_87 : decode cX4_alone 87 = .ok (.ifCond .ne 8, 3) := by decide +kernel
theorem dX4_alone_90 : decode cX4_alone 90 = .ok (.bipush (-4), 2) := by decide +kernel
theorem dX4_alone_92 : decode cX4_alone 92 = .ok (.goto 7, 3) := by decide +kernel
theorem dX4_alone_95 : decode cX4_alone 95 = .ok (.aload_n 0, 1) := by decide +kernel
theorem dX4_alone_96 : decode cX4_alone 96 = .ok (.getfield 253, 3) := by decide +kernel
theorem dX4_alone_99 : decode cX4_alone 99 = .ok (.ireturn, 1) := by decide +kernel
theorem dX4_lowest_0 : decode cX4_lowest 0 = .ok (.lload_n 0, 1) := by decide +kernel
theorem dX4_lowest_1 : decode cX4_lowest 1 = .ok (.lstore 5, 2) := by decide +kernel
theorem dX4_lowest_3 : decode cX4_lowest 3 = .ok (.lload_n 2, 1) := by decide +kernel
theorem dX4_lowest_4 : decode cX4_lowest 4 = .ok (.lstore 7, 2) := by decide +kernel
theorem dX4_lowest_6 : decode cX4_lowest 6 = .ok (.lload 7, 2) := by decide +kernel
theorem dX4_lowest_8 : decode cX4_lowest 8 = .ok (.lconst 0, 1) := by decide +kernel
theorem dX4_lowest_9 : decode cX4_lowest 9 = .ok (.lcmp, 1) := by decide +kernel
theorem dX4_lowest_10 : decode cX4_lowest 10 = .ok (.ifCond .eq 21, 3) := by decide +kernel
theorem dX4_lowest_13 : decode cX4_lowest 13 = .ok (.lload 5, 2) := by decide +kernel
theorem dX4_lowest_15 : decode cX4_lowest 15 = .ok (.lload 7, 2) := by decide +kernel
theorem dX4_lowest_17 : decode cX4_lowest 17 = .ok (.lrem, 1) := by decide +kernel
theorem dX4_lowest_18 : decode cX4_lowest 18 = .ok (.lstore 9, 2) := by decide +kernel
theorem dX4_lowest_20 : decode cX4_lowest 20 = .ok (.lload 7, 2) := by decide +kernel
theorem dX4_lowest_22 : decode cX4_lowest 22 = .ok (.lstore 5, 2) := by decide +kernel
theorem dX4_lowest_24 : decode cX4_lowest 24 = .ok (.lload 9, 2) := by decide +kernel
theorem dX4_lowest_26 : decode cX4_lowest 26 = .ok (.lstore 7, 2) := by decide +kernel
theorem dX4_lowest_28 : decode cX4_lowest 28 = .ok (.goto (-22), 3) := by decide +kernel
theorem dX4_lowest_31 : decode cX4_lowest 31 = .ok (.iload 4, 2) := by decide +kernel
theorem dX4_lowest_33 : decode cX4_lowest 33 = .ok (.ifCond .ne 7, 3) := by decide +kernel
theorem dX4_lowest_36 : decode cX4_lowest 36 = .ok (.lload_n 0, 1) := by decide +kernel
theorem dX4_lowest_37 : decode cX4_lowest 37 = .ok (.goto 4, 3) := by decide +kernel
theorem dX4_lowest_40 : decode cX4_lowest 40 = .ok (.lload_n 2, 1) := by decide +kernel
theorem dX4_lowest_41 : decode cX4_lowest 41 = .ok (.lload 5, 2) := by decide +kernel
theorem dX4_lowest_43 : decode cX4_lowest 43 = .ok (.ldiv, 1) := by decide +kernel
theorem dX4_lowest_44 : decode cX4_lowest 44 = .ok (.lreturn, 1) := by decide +kernel
theorem dX4_sumBy_0 : decode cX4_sumBy 0 = .ok (.lconst 0, 1) := by decide +kernel
theorem dX4_sumBy_1 : decode cX4_sumBy 1 = .ok (.lstore_n 3, 1) := by decide +kernel
theorem dX4_sumBy_2 : decode cX4_sumBy 2 = .ok (.iconst 0, 1) := by decide +kernel
theorem dX4_sumBy_3 : decode cX4_sumBy 3 = .ok (.istore 5, 2) := by decide +kernel
theorem dX4_sumBy_5 : decode cX4_sumBy 5 = .ok (.iload 5, 2) := by decide +kernel
theorem dX4_sumBy_7 : decode cX4_sumBy 7 = .ok (.iconst 1, 1) := by decide +kernel
theorem dX4_sumBy_8 : decode cX4_sumBy 8 = .ok (.aload_n 0, 1) := by decide +kernel
theorem dX4_sumBy_9 : decode cX4_sumBy 9 = .ok (.getfield 153, 3) := by decide +kernel
theorem dX4_sumBy_12 : decode cX4_sumBy 12 = .ok (.ishl, 1) := by decide +kernel
theorem dX4_sumBy_13 : decode cX4_sumBy 13 = .ok (.if_icmp .ge 174, 3) := by decide +kernel
theorem dX4_sumBy_16 : decode cX4_sumBy 16 = .ok (.lconst 1, 1) := by decide +kernel
theorem dX4_sumBy_17 : decode cX4_sumBy 17 = .ok (.lstore 6, 2) := by decide +kernel
theorem dX4_sumBy_19 : decode cX4_sumBy 19 = .ok (.aload_n 0, 1) := by decide +kernel
theorem dX4_sumBy_20 : decode cX4_sumBy 20 = .ok (.iconst 0, 1) := by decide +kernel
theorem dX4_sumBy_21 : decode cX4_sumBy 21 = .ok (.bipush 100, 2) := by decide +kernel
theorem dX4_sumBy_23 : decode cX4_sumBy 23 = .ok (.invokevirtual 250, 3) := by decide +kernel
theorem dX4_sumBy_26 : decode cX4_sumBy 26 = .ok (.iconst 0, 1) := by decide +kernel
theorem dX4_sumBy_27 : decode cX4_sumBy 27 = .ok (.istore 8, 2) := by decide +kernel
theorem dX4_sumBy_29 : decode cX4_sumBy 29 = .ok (.iload 8, 2) := by decide +kernel
theorem dX4_sumBy_31 : decode cX4_sumBy 31 = .ok (.aload_n 0, 1) := by decide +kernel
theorem dX4_sumBy_32 : decode cX4_sumBy 32 = .ok (.getfield 153, 3) := by decide +kernel
theorem dX4_sumBy_35 : decode cX4_sumBy 35 = .ok (.if_icmp .ge 99, 3) := by decide +kernel
theorem dX4_sumBy_38 : decode cX4_sumBy 38 = .ok (.iload 5, 2) := by decide +kernel
theorem dX4_sumBy_40 : decode cX4_sumBy 40 = .ok (.iload 8, 2) := by decide +kernel
theorem dX4_sumBy_42 : decode cX4_sumBy 42 = .ok (.ishr, 1) := by decide +kernel
theorem dX4_sumBy_43 : decode cX4_sumBy 43 = .ok (.iconst 1, 1) := by decide +kernel
theorem dX4_sumBy_44 : decode cX4_sumBy 44 = .ok (.iand, 1) := by decide +kernel
theorem dX4_sumBy_45 : decode cX4_sumBy 45 = .ok (.iconst 1, 1) := by decide +kernel
theorem dX4_sumBy_46 : decode cX4_sumBy 46 = .ok (.if_icmp .ne 7, 3) := by decide +kernel
theorem dX4_sumBy_49 : decode cX4_sumBy 49 = .ok (.iconst 1, 1) := by decide +kernel
theorem dX4_sumBy_50 : decode cX4_sumBy 50 = .ok (.goto 4, 3) := by decide +kernel
theorem dX4_sumBy_53 : decode cX4_sumBy 53 = .ok (.iconst 0, 1) := by decide +kernel
theorem dX4_sumBy_54 : decode cX4_sumBy 54 = .ok (.istore 9, 2) := by decide +kernel
theorem dX4_sumBy_56 : decode cX4_sumBy 56 = .ok (.aload_n 0, 1) := by decide +kernel
theorem dX4_sumBy_57 : decode cX4_sumBy 57 = .ok (.getfield 7, 3) := by decide +kernel
theorem dX4_sumBy_60 : decode cX4_sumBy 60 = .ok (.bipush 14, 2) := by decide +kernel
theorem dX4_sumBy_62 : decode cX4_sumBy 62 = .ok (.iload 8, 2) := by decide +kernel
theorem dX4_sumBy_64 : decode cX4_sumBy 64 = .ok (.iadd, 1) := by decide +kernel
theorem dX4_sumBy_65 : decode cX4_sumBy 65 = .ok (.iaload, 1) := by decide +kernel
theorem dX4_sumBy_66 : decode cX4_sumBy 66 = .ok (.iconst 1, 1) := by decide +kernel
theorem dX4_sumBy_67 : decode cX4_sumBy 67 = .ok (.if_icmp .ne 7, 3) := by decide +kernel
theorem dX4_sumBy_70 : decode cX4_sumBy 70 = .ok (.iconst 0, 1) := by decide +kernel
theorem dX4_sumBy_71 : decode cX4_sumBy 71 = .ok (.goto 13, 3) := by decide +kernel
theorem dX4_sumBy_74 : decode cX4_sumBy 74 = .ok (.aload_n 0, 1) := by decide +kernel
theorem dX4_sumBy_75 : decode cX4_sumBy 75 = .ok (.getfield 7, 3) := by decide +kernel
theorem dX4_sumBy_78 : decode cX4_sumBy 78 = .ok (.bipush 17, 2) := by decide +kernel
theorem dX4_sumBy_80 : decode cX4_sumBy 80 = .ok (.iload 8, 2) := by decide +kernel
theorem dX4_sumBy_82 : decode cX4_sumBy 82 = .ok (.iadd, 1) := by decide +kernel
theorem dX4_sumBy_83 : decode cX4_sumBy 83 = .ok (.iaload, 1) := by decide +kernel
theorem dX4_sumBy_84 : decode cX4_sumBy 84 = .ok (.istore 10, 2) := by decide +kernel
theorem dX4_sumBy_86 : decode cX4_sumBy 86 = .ok (.lload 6, 2) := by decide +kernel
theorem dX4_sumBy_88 : decode cX4_sumBy 88 = .ok (.iload 9, 2) := by decide +kernel
theorem dX4_sumBy_90 : decode cX4_sumBy 90 = .ok (.ifCond .eq 9, 3) := by decide +kernel
theorem dX4_sumBy_93 : decode cX4_sumBy 93 = .ok (.iload 10, 2) := by decide +kernel
theorem dX4_sumBy_95 : decode cX4_sumBy 95 = .ok (.i2l, 1) := by decide +kernel
theorem dX4_sumBy_96 : decode cX4_sumBy 96 = .ok (.goto 9, 3) := by decide +kernel
theorem dX4_sumBy_99 : decode cX4_sumBy 99 = .ok (.bipush 10, 2) := by decide +kernel
theorem dX4_sumBy_101 : decode cX4_sumBy 101 = .ok (.iload 10, 2) := by decide +kernel
theorem dX4_sumBy_103 : decode cX4_sumBy 103 = .ok (.isub, 1) := by decide +kernel
theorem dX4_sumBy_104 : decode cX4_sumBy 104 = .ok (.i2l, 1) := by decide +kernel
theorem dX4_sumBy_105 : decode cX4_sumBy 105 = .ok (.lmul, 1) := by decide +kernel
theorem dX4_sumBy_106 : decode cX4_sumBy 106 = .ok (.lstore 6, 2) := by decide +kernel
theorem dX4_sumBy_108 : decode cX4_sumBy 108 = .ok (.aload_n 0, 1) := by decide +kernel
theorem dX4_sumBy_109 : decode cX4_sumBy 109 = .ok (.getfield 7, 3) := by decide +kernel
theorem dX4_sumBy_112 : decode cX4_sumBy 112 = .ok (.bipush 114, 2) := by decide +kernel
theorem dX4_sumBy_114 : decode cX4_sumBy 114 = .ok (.iload 8, 2) := by decide +kernel
theorem dX4_sumBy_116 : decode cX4_sumBy 116 = .ok (.iadd, 1) := by decide +kernel
theorem dX4_sumBy_117 : decode cX4_sumBy 117 = .ok (.iload 9, 2) := by decide +kernel
theorem dX4_sumBy_119 : decode cX4_sumBy 119 = .ok (.ifCond .eq 7, 3) := by decide +kernel
theorem dX4_sumBy_122 : decode cX4_sumBy 122 = .ok (.iconst 0, 1) := by decide +kernel
theorem dX4_sumBy_123 : decode cX4_sumBy 123 = .ok (.goto 4, 3) := by decide +kernel
theorem dX4_sumBy_126 : decode cX4_sumBy 126 = .ok (.iconst 1, 1) := by decide +kernel
theorem dX4_sumBy_127 : decode cX4_sumBy 127 = .ok (.iastore, 1) := by decide +kernel
theorem dX4_sumBy_128 : decode cX4_sumBy 128 = .ok (.iinc 8 1, 3) := by decide +kernel
theorem dX4_sumBy_131 : decode cX4_sumBy 131 = .ok (.goto (-102), 3) := by decide +kernel
theorem dX4_sumBy_134 : decode cX4_sumBy 134 = .ok (.lload 6, 2) := by decide +kernel
theorem dX4_sumBy_136 : decode cX4_sumBy 136 = .ok (.lconst 0, 1) := by decide +kernel
theorem dX4_sumBy_137 : decode cX4_sumBy 137 = .ok (.lcmp, 1) := by decide +kernel
theorem dX4_sumBy_138 : decode cX4_sumBy 138 = .ok (.ifCond .ne 7, 3) := by decide +kernel
theorem dX4_sumBy_141 : decode cX4_sumBy 141 = .ok (.iconst 0, 1) := by decide +kernel
theorem dX4_sumBy_142 : decode cX4_sumBy 142 = .ok (.goto 10, 3) := by decide +kernel
theorem dX4_sumBy_145 : decode cX4_sumBy 145 = .ok (.aload_n 0, 1) := by decide +kernel
theorem dX4_sumBy_146 : decode cX4_sumBy 146 = .ok (.bipush 100, 2) := by decide +kernel
theorem dX4_sumBy_148 : decode cX4_sumBy 148 = .ok (.iload_n 1, 1) := by decide +kernel
theorem dX4_sumBy_149 : decode cX4_sumBy 149 = .ok (.invokevirtual 256, 3) := by decide +kernel
theorem dX4_sumBy_152 : decode cX4_sumBy 152 = .ok (.istore 8, 2) := by decide +kernel
theorem dX4_sumBy_154 : decode cX4_sumBy 154 = .ok (.lload_n 3, 1) := by decide +kernel
theorem dX4_sumBy_155 : decode cX4_sumBy 155 = .ok (.lload 6, 2) := by decide +kernel
theorem dX4_sumBy_157 : decode cX4_sumBy 157 = .ok (.iload_n 2, 1) := by decide +kernel
theorem dX4_sumBy_158 : decode cX4_sumBy 158 = .ok (.ifCond .ne 8, 3) := by decide +kernel
theorem dX4_sumBy_161 : decode cX4_sumBy 161 = .ok (.iload 8, 2) := by decide +kernel
theorem dX4_sumBy_163 : decode cX4_sumBy 163 = .ok (.goto 14, 3) := by decide +kernel
theorem dX4_sumBy_166 : decode cX4_sumBy 166 = .ok (.iload 8, 2) := by decide +kernel
theorem dX4_sumBy_168 : decode cX4_sumBy 168 = .ok (.iload_n 2, 1) := by decide +kernel
theorem dX4_sumBy_169 : decode cX4_sumBy 169 = .ok (.if_icmp .lt 7, 3) := by decide +kernel
theorem dX4_sumBy_172 : decode cX4_sumBy 172 = .ok (.iconst 1, 1) := by decide +kernel
theorem dX4_sumBy_173 : decode cX4_sumBy 173 = .ok (.goto 4, 3) := by decide +kernel
theorem dX4_sumBy_176 : decode cX4_sumBy 176 = .ok (.iconst 0, 1) := by decide +kernel
theorem dX4_sumBy_177 : decode cX4_sumBy 177 = .ok (.i2l, 1) := by decide +kernel
theorem dX4_sumBy_178 : decode cX4_sumBy 178 = .ok (.lmul, 1) := by decide +kernel
theorem dX4_sumBy_179 : decode cX4_sumBy 179 = .ok (.ladd, 1) := by decide +kernel
theorem dX4_sumBy_180 : decode cX4_sumBy 180 = .ok (.lstore_n 3, 1) := by decide +kernel
theorem dX4_sumBy_181 : decode cX4_sumBy 181 = .ok (.iinc 5 1, 3) := by decide +kernel
theorem dX4_sumBy_184 : decode cX4_sumBy 184 = .ok (.goto (-179), 3) := by decide +kernel
theorem dX4_sumBy_187 : decode cX4_sumBy 187 = .ok (.lload_n 3, 1) := by decide +kernel
theorem dX4_sumBy_188 : decode cX4_sumBy 188 = .ok (.lreturn, 1) := by decide +kernel
theorem dX4_tens_0 : decode cX4_tens 0 = .ok (.lconst 1, 1) := by decide +kernel
theorem dX4_tens_1 : decode cX4_tens 1 = .ok (.lstore_n 2, 1) := by decide +kernel
theorem dX4_tens_2 : decode cX4_tens 2 = .ok (.iconst 0, 1) := by decide +kernel
theorem dX4_tens_3 : decode cX4_tens 3 = .ok (.istore 4, 2) := by decide +kernel
theorem dX4_tens_5 : decode cX4_tens 5 = .ok (.iload 4, 2) := by decide +kernel
theorem dX4_tens_7 : decode cX4_tens 7 = .ok (.iload_n 1, 1) := by decide +kernel
theorem dX4_tens_8 : decode cX4_tens 8 = .ok (.if_icmp .ge 15, 3) := by decide +kernel
theorem dX4_tens_11 : decode cX4_tens 11 = .ok (.lload_n 2, 1) := by decide +kernel
theorem dX4_tens_12 : decode cX4_tens 12 = .ok (.ldc2_w 214, 3) := by decide +kernel
theorem dX4_tens_15 : decode cX4_tens 15 = .ok (.lmul, 1) := by decide +kernel
theorem dX4_tens_16 : decode cX4_tens 16 = .ok (.lstore_n 2, 1) := by decide +kernel
theorem dX4_tens_17 : decode cX4_tens 17 = .ok (.iinc 4 1, 3) := by decide +kernel
theorem dX4_tens_20 : decode cX4_tens 20 = .ok (.goto (-15), 3) := by decide +kernel
theorem dX4_tens_23 : decode cX4_tens 23 = .ok (.lload_n 2, 1) := by decide +kernel
theorem dX4_tens_24 : decode cX4_tens 24 = .ok (.lreturn, 1) := by decide +kernel
theorem dX4_luck_0 : decode cX4_luck 0 = .ok (.iload_n 1, 1) := by decide +kernel
theorem dX4_luck_1 : decode cX4_luck 1 = .ok (.i2l, 1) := by decide +kernel
theorem dX4_luck_2 : decode cX4_luck 2 = .ok (.lconst 1, 1) := by decide +kernel
theorem dX4_luck_3 : decode cX4_luck 3 = .ok (.ldc2_w 198, 3) := by decide +kernel
theorem dX4_luck_6 : decode cX4_luck 6 = .ok (.invokestatic 59, 3) := by decide +kernel
theorem dX4_luck_9 : decode cX4_luck 9 = .ok (.ifCond .eq 20, 3) := by decide +kernel
theorem dX4_luck_12 : decode cX4_luck 12 = .ok (.iload_n 2, 1) := by decide +kernel
theorem dX4_luck_13 : decode cX4_luck 13 = .ok (.invokestatic 211, 3) := by decide +kernel
theorem dX4_luck_16 : decode cX4_luck 16 = .ok (.ifCond .eq 13, 3) := by decide +kernel
theorem dX4_luck_19 : decode cX4_luck 19 = .ok (.iload_n 3, 1) := by decide +kernel
theorem dX4_luck_20 : decode cX4_luck 20 = .ok (.i2l, 1) := by decide +kernel
theorem dX4_luck_21 : decode cX4_luck 21 = .ok (.lconst 0, 1) := by decide +kernel
theorem dX4_luck_22 : decode cX4_luck 22 = .ok (.lconst 1, 1) := by decide +kernel
theorem dX4_luck_23 : decode cX4_luck 23 = .ok (.invokestatic 59, 3) := by decide +kernel
theorem dX4_luck_26 : decode cX4_luck 26 = .ok (.ifCond .ne 7, 3) := by decide +kernel
theorem dX4_luck_29 : decode cX4_luck 29 = .ok (.ldc2_w 259, 3) := by decide +kernel
theorem dX4_luck_32 : decode cX4_luck 32 = .ok (.lreturn, 1) := by decide +kernel
theorem dX4_luck_33 : decode cX4_luck 33 = .ok (.aload_n 0, 1) := by decide +kernel
theorem dX4_luck_34 : decode cX4_luck 34 = .ok (.iload_n 2, 1) := by decide +kernel
theorem dX4_luck_35 : decode cX4_luck 35 = .ok (.iload_n 1, 1) := by decide +kernel
theorem dX4_luck_36 : decode cX4_luck 36 = .ok (.invokevirtual 261, 3) := by decide +kernel
theorem dX4_luck_39 : decode cX4_luck 39 = .ok (.aload_n 0, 1) := by decide +kernel
theorem dX4_luck_40 : decode cX4_luck 40 = .ok (.aload_n 0, 1) := by decide +kernel
theorem dX4_luck_41 : decode cX4_luck 41 = .ok (.getfield 153, 3) := by decide +kernel
theorem dX4_luck_44 : decode cX4_luck 44 = .ok (.invokevirtual 265, 3) := by decide +kernel
theorem dX4_luck_47 : decode cX4_luck 47 = .ok (.iload_n 3, 1) := by decide +kernel
theorem dX4_luck_48 : decode cX4_luck 48 = .ok (.invokestatic 269, 3) := by decide +kernel
theorem dX4_luck_51 : decode cX4_luck 51 = .ok (.lreturn, 1) := by decide +kernel
theorem dX4_mean_0 : decode cX4_mean 0 = .ok (.iload_n 1, 1) := by decide +kernel
theorem dX4_mean_1 : decode cX4_mean 1 = .ok (.invokestatic 211, 3) := by decide +kernel
theorem dX4_mean_4 : decode cX4_mean 4 = .ok (.ifCond .eq 34, 3) := by decide +kernel
theorem dX4_mean_7 : decode cX4_mean 7 = .ok (.iload_n 2, 1) := by decide +kernel
theorem dX4_mean_8 : decode cX4_mean 8 = .ok (.i2l, 1) := by decide +kernel
theorem dX4_mean_9 : decode cX4_mean 9 = .ok (.lconst 0, 1) := by decide +kernel
theorem dX4_mean_10 : decode cX4_mean 10 = .ok (.lconst 1, 1) := by decide +kernel
theorem dX4_mean_11 : decode cX4_mean 11 = .ok (.invokestatic 59, 3) := by decide +kernel
theorem dX4_mean_14 : decode cX4_mean 14 = .ok (.ifCond .eq 24, 3) := by decide +kernel
theorem dX4_mean_17 : decode cX4_mean 17 = .ok (.aload_n 0, 1) := by decide +kernel
theorem dX4_mean_18 : decode cX4_mean 18 = .ok (.iload_n 1, 1) := by decide +kernel
theorem dX4_mean_19 : decode cX4_mean 19 = .ok (.iconst 0, 1) := by decide +kernel
theorem dX4_mean_20 : decode cX4_mean 20 = .ok (.invokevirtual 261, 3) := by decide +kernel
theorem dX4_mean_23 : decode cX4_mean 23 = .ok (.aload_n 0, 1) := by decide +kernel
theorem dX4_mean_24 : decode cX4_mean 24 = .ok (.aload_n 0, 1) := by decide +kernel
theorem dX4_mean_25 : decode cX4_mean 25 = .ok (.getfield 153, 3) := by decide +kernel
theorem dX4_mean_28 : decode cX4_mean 28 = .ok (.invokevirtual 265, 3) := by decide +kernel
theorem dX4_mean_31 : decode cX4_mean 31 = .ok (.iload_n 2, 1) := by decide +kernel
theorem dX4_mean_32 : decode cX4_mean 32 = .ok (.invokestatic 269, 3) := by decide +kernel
theorem dX4_mean_35 : decode cX4_mean 35 = .ok (.goto 6, 3) := by decide +kernel
theorem dX4_mean_38 : decode cX4_mean 38 = .ok (.ldc2_w 259, 3) := by decide +kernel
theorem dX4_mean_41 : decode cX4_mean 41 = .ok (.lreturn, 1) := by decide +kernel
theorem dX4_stay_0 : decode cX4_stay 0 = .ok (.iload_n 1, 1) := by decide +kernel
theorem dX4_stay_1 : decode cX4_stay 1 = .ok (.i2l, 1) := by decide +kernel
theorem dX4_stay_2 : decode cX4_stay 2 = .ok (.lconst 0, 1) := by decide +kernel
theorem dX4_stay_3 : decode cX4_stay 3 = .ok (.ldc2_w 248, 3) := by decide +kernel
theorem dX4_stay_6 : decode cX4_stay 6 = .ok (.invokestatic 59, 3) := by decide +kernel
theorem dX4_stay_9 : decode cX4_stay 9 = .ok (.ifCond .eq 13, 3) := by decide +kernel
theorem dX4_stay_12 : decode cX4_stay 12 = .ok (.iload_n 2, 1) := by decide +kernel
theorem dX4_stay_13 : decode cX4_stay 13 = .ok (.i2l, 1) := by decide +kernel
theorem dX4_stay_14 : decode cX4_stay 14 = .ok (.lconst 0, 1) := by decide +kernel
theorem dX4_stay_15 : decode cX4_stay 15 = .ok (.lconst 1, 1) := by decide +kernel
theorem dX4_stay_16 : decode cX4_stay 16 = .ok (.invokestatic 59, 3) := by decide +kernel
theorem dX4_stay_19 : decode cX4_stay 19 = .ok (.ifCond .ne 7, 3) := by decide +kernel
theorem dX4_stay_22 : decode cX4_stay 22 = .ok (.ldc2_w 259, 3) := by decide +kernel
theorem dX4_stay_25 : decode cX4_stay 25 = .ok (.lreturn, 1) := by decide +kernel
theorem dX4_stay_26 : decode cX4_stay 26 = .ok (.lconst 1, 1) := by decide +kernel
theorem dX4_stay_27 : decode cX4_stay 27 = .ok (.lstore_n 3, 1) := by decide +kernel
theorem dX4_stay_28 : decode cX4_stay 28 = .ok (.lconst 1, 1) := by decide +kernel
theorem dX4_stay_29 : decode cX4_stay 29 = .ok (.lstore 5, 2) := by decide +kernel
theorem dX4_stay_31 : decode cX4_stay 31 = .ok (.aload_n 0, 1) := by decide +kernel
theorem dX4_stay_32 : decode cX4_stay 32 = .ok (.iconst 0, 1) := by decide +kernel
theorem dX4_stay_33 : decode cX4_stay 33 = .ok (.bipush 80, 2) := by decide +kernel
theorem dX4_stay_35 : decode cX4_stay 35 = .ok (.invokevirtual 250, 3) := by decide +kernel
theorem dX4_stay_38 : decode cX4_stay 38 = .ok (.iconst 0, 1) := by decide +kernel
theorem dX4_stay_39 : decode cX4_stay 39 = .ok (.istore 7, 2) := by decide +kernel
theorem dX4_stay_41 : decode cX4_stay 41 = .ok (.iload 7, 2) := by decide +kernel
theorem dX4_stay_43 : decode cX4_stay 43 = .ok (.iload_n 1, 1) := by decide +kernel
theorem dX4_stay_44 : decode cX4_stay 44 = .ok (.if_icmp .ge 62, 3) := by decide +kernel
theorem dX4_stay_47 : decode cX4_stay 47 = .ok (.aload_n 0, 1) := by decide +kernel
theorem dX4_stay_48 : decode cX4_stay 48 = .ok (.bipush 80, 2) := by decide +kernel
theorem dX4_stay_50 : decode cX4_stay 50 = .ok (.invokevirtual 171, 3) := by decide +kernel
theorem dX4_stay_53 : decode cX4_stay 53 = .ok (.bipush 24, 2) := by decide +kernel
theorem dX4_stay_55 : decode cX4_stay 55 = .ok (.irem, 1) := by decide +kernel
theorem dX4_stay_56 : decode cX4_stay 56 = .ok (.bipush 12, 2) := by decide +kernel
theorem dX4_stay_58 : decode cX4_stay 58 = .ok (.if_icmp .ne 34, 3) := by decide +kernel
theorem dX4_stay_61 : decode cX4_stay 61 = .ok (.aload_n 0, 1) := by decide +kernel
theorem dX4_stay_62 : decode cX4_stay 62 = .ok (.bipush 80, 2) := by decide +kernel
theorem dX4_stay_64 : decode cX4_stay 64 = .ok (.invokevirtual 218, 3) := by decide +kernel
theorem dX4_stay_67 : decode cX4_stay 67 = .ok (.ifCond .le 25, 3) := by decide +kernel
theorem dX4_stay_70 : decode cX4_stay 70 = .ok (.lload_n 3, 1) := by decide +kernel
theorem dX4_stay_71 : decode cX4_stay 71 = .ok (.ldc2_w 214, 3) := by decide +kernel
theorem dX4_stay_74 : decode cX4_stay 74 = .ok (.lmul, 1) := by decide +kernel
theorem dX4_stay_75 : decode cX4_stay 75 = .ok (.lstore_n 3, 1) := by decide +kernel
theorem dX4_stay_76 : decode cX4_stay 76 = .ok (.lload 5, 2) := by decide +kernel
theorem dX4_stay_78 : decode cX4_stay 78 = .ok (.bipush 10, 2) := by decide +kernel
theorem dX4_stay_80 : decode cX4_stay 80 = .ok (.aload_n 0, 1) := by decide +kernel
theorem dX4_stay_81 : decode cX4_stay 81 = .ok (.getfield 7, 3) := by decide +kernel
theorem dX4_stay_84 : decode cX4_stay 84 = .ok (.bipush 13, 2) := by decide +kernel
theorem dX4_stay_86 : decode cX4_stay 86 = .ok (.iaload, 1) := by decide +kernel
theorem dX4_stay_87 : decode cX4_stay 87 = .ok (.isub, 1) := by decide +kernel
theorem dX4_stay_88 : decode cX4_stay 88 = .ok (.i2l, 1) := by decide +kernel
theorem dX4_stay_89 : decode cX4_stay 89 = .ok (.lmul, 1) := by decide +kernel
theorem dX4_stay_90 : decode cX4_stay 90 = .ok (.lstore 5, 2) := by decide +kernel
theorem dX4_stay_92 : decode cX4_stay 92 = .ok (.aload_n 0, 1) := by decide +kernel
theorem dX4_stay_93 : decode cX4_stay 93 = .ok (.bipush 80, 2) := by decide +kernel
theorem dX4_stay_95 : decode cX4_stay 95 = .ok (.iconst 1, 1) := by decide +kernel
theorem dX4_stay_96 : decode cX4_stay 96 = .ok (.iconst 3, 1) := by decide +kernel
theorem dX4_stay_97 : decode cX4_stay 97 = .ok (.invokevirtual 244, 3) := by decide +kernel
theorem dX4_stay_100 : decode cX4_stay 100 = .ok (.iinc 7 1, 3) := by decide +kernel
theorem dX4_stay_103 : decode cX4_stay 103 = .ok (.goto (-62), 3) := by decide +kernel
theorem dX4_stay_106 : decode cX4_stay 106 = .ok (.lload_n 3, 1) := by decide +kernel
theorem dX4_stay_107 : decode cX4_stay 107 = .ok (.lload 5, 2) := by decide +kernel
theorem dX4_stay_109 : decode cX4_stay 109 = .ok (.lsub, 1) := by decide +kernel
theorem dX4_stay_110 : decode cX4_stay 110 = .ok (.lload_n 3, 1) := by decide +kernel
theorem dX4_stay_111 : decode cX4_stay 111 = .ok (.iload_n 2, 1) := by decide +kernel
theorem dX4_stay_112 : decode cX4_stay 112 = .ok (.invokestatic 269, 3) := by decide +kernel
theorem dX4_stay_115 : decode cX4_stay 115 = .ok (.lreturn, 1) := by decide +kernel
theorem dX4_see_0 : decode cX4_see 0 = .ok (.iload_n 1, 1) := by decide +kernel
theorem dX4_see_1 : decode cX4_see 1 = .ok (.i2l, 1) := by decide +kernel
theorem dX4_see_2 : decode cX4_see 2 = .ok (.lconst 1, 1) := by decide +kernel
theorem dX4_see_3 : decode cX4_see 3 = .ok (.ldc2_w 273, 3) := by decide +kernel
theorem dX4_see_6 : decode cX4_see 6 = .ok (.invokestatic 59, 3) := by decide +kernel
theorem dX4_see_9 : decode cX4_see 9 = .ok (.ifCond .eq 15, 3) := by decide +kernel
theorem dX4_see_12 : decode cX4_see 12 = .ok (.iload_n 2, 1) := by decide +kernel
theorem dX4_see_13 : decode cX4_see 13 = .ok (.i2l, 1) := by decide +kernel
theorem dX4_see_14 : decode cX4_see 14 = .ok (.lconst 0, 1) := by decide +kernel
theorem dX4_see_15 : decode cX4_see 15 = .ok (.ldc2_w 209, 3) := by decide +kernel
theorem dX4_see_18 : decode cX4_see 18 = .ok (.invokestatic 59, 3) := by decide +kernel
theorem dX4_see_21 : decode cX4_see 21 = .ok (.ifCond .ne 5, 3) := by decide +kernel
theorem dX4_see_24 : decode cX4_see 24 = .ok (.iconst (-1), 1) := by decide +kernel
theorem dX4_see_25 : decode cX4_see 25 = .ok (.ireturn, 1) := by decide +kernel
theorem dX4_see_26 : decode cX4_see 26 = .ok (.aload_n 0, 1) := by decide +kernel
theorem dX4_see_27 : decode cX4_see 27 = .ok (.getfield 162, 3) := by decide +kernel
theorem dX4_see_30 : decode cX4_see 30 = .ok (.bipush 6, 2) := by decide +kernel
theorem dX4_see_32 : decode cX4_see 32 = .ok (.if_icmp .ne 6, 3) := by decide +kernel
theorem dX4_see_35 : decode cX4_see 35 = .ok (.bipush (-3), 2) := by decide +kernel
theorem dX4_see_37 : decode cX4_see 37 = .ok (.ireturn, 1) := by decide +kernel
theorem dX4_see_38 : decode cX4_see 38 = .ok (.aload_n 0, 1) := by decide +kernel
theorem dX4_see_39 : decode cX4_see 39 = .ok (.getfield 41, 3) := by decide +kernel
theorem dX4_see_42 : decode cX4_see 42 = .ok (.iconst 2, 1) := by decide +kernel
theorem dX4_see_43 : decode cX4_see 43 = .ok (.aload_n 0, 1) := by decide +kernel
theorem dX4_see_44 : decode cX4_see 44 = .ok (.getfield 162, 3) := by decide +kernel
theorem dX4_see_47 : decode cX4_see 47 = .ok (.imul, 1) := by decide +kernel
theorem dX4_see_48 : decode cX4_see 48 = .ok (.iload_n 1, 1) := by decide +kernel
theorem dX4_see_49 : decode cX4_see 49 = .ok (.iastore, 1) := by decide +kernel
theorem dX4_see_50 : decode cX4_see 50 = .ok (.aload_n 0, 1) := by decide +kernel
theorem dX4_see_51 : decode cX4_see 51 = .ok (.getfield 41, 3) := by decide +kernel
theorem dX4_see_54 : decode cX4_see 54 = .ok (.iconst 2, 1) := by decide +kernel
theorem dX4_see_55 : decode cX4_see 55 = .ok (.aload_n 0, 1) := by decide +kernel
theorem dX4_see_56 : decode cX4_see 56 = .ok (.getfield 162, 3) := by decide +kernel
theorem dX4_see_59 : decode cX4_see 59 = .ok (.imul, 1) := by decide +kernel
theorem dX4_see_60 : decode cX4_see 60 = .ok (.iconst 1, 1) := by decide +kernel
theorem dX4_see_61 : decode cX4_see 61 = .ok (.iadd, 1) := by decide +kernel
theorem dX4_see_62 : decode cX4_see 62 = .ok (.iload_n 2, 1) := by decide +kernel
theorem dX4_see_63 : decode cX4_see 63 = .ok (.iastore, 1) := by decide +kernel
theorem dX4_see_64 : decode cX4_see 64 = .ok (.aload_n 0, 1) := by decide +kernel
theorem dX4_see_65 : decode cX4_see 65 = .ok (.dup, 1) := by decide +kernel
theorem dX4_see_66 : decode cX4_see 66 = .ok (.getfield 162, 3) := by decide +kernel
theorem dX4_see_69 : decode cX4_see 69 = .ok (.iconst 1, 1) := by decide +kernel
theorem dX4_see_70 : decode cX4_see 70 = .ok (.iadd, 1) := by decide +kernel
theorem dX4_see_71 : decode cX4_see 71 = .ok (.putfield 162, 3) := by decide +kernel
theorem dX4_see_74 : decode cX4_see 74 = .ok (.aload_n 0, 1) := by decide +kernel
theorem dX4_see_75 : decode cX4_see 75 = .ok (.getfield 162, 3) := by decide +kernel
theorem dX4_see_78 : decode cX4_see 78 = .ok (.ireturn, 1) := by decide +kernel
theorem dX4_forget_0 : decode cX4_forget 0 = .ok (.iload_n 1, 1) := by decide +kernel
theorem dX4_forget_1 : decode cX4_forget 1 = .ok (.i2l, 1) := by decide +kernel
theorem dX4_forget_2 : decode cX4_forget 2 = .ok (.lconst 0, 1) := by decide +kernel
theorem dX4_forget_3 : decode cX4_forget 3 = .ok (.aload_n 0, 1) := by decide +kernel
theorem dX4_forget_4 : decode cX4_forget 4 = .ok (.getfield 162, 3) := by decide +kernel
theorem dX4_forget_7 : decode cX4_forget 7 = .ok (.i2l, 1) := by decide +kernel
theorem dX4_forget_8 : decode cX4_forget 8 = .ok (.invokestatic 59, 3) := by decide +kernel
theorem dX4_forget_11 : decode cX4_forget 11 = .ok (.ifCond .ne 5, 3) := by decide +kernel
theorem dX4_forget_14 : decode cX4_forget 14 = .ok (.iconst (-1), 1) := by decide +kernel
theorem dX4_forget_15 : decode cX4_forget 15 = .ok (.ireturn, 1) := by decide +kernel
theorem dX4_forget_16 : decode cX4_forget 16 = .ok (.aload_n 0, 1) := by decide +kernel
theorem dX4_forget_17 : decode cX4_forget 17 = .ok (.getfield 162, 3) := by decide +kernel
theorem dX4_forget_20 : decode cX4_forget 20 = .ok (.istore_n 2, 1) := by decide +kernel
theorem dX4_forget_21 : decode cX4_forget 21 = .ok (.aload_n 0, 1) := by decide +kernel
theorem dX4_forget_22 : decode cX4_forget 22 = .ok (.iload_n 1, 1) := by decide +kernel
theorem dX4_forget_23 : decode cX4_forget 23 = .ok (.putfield 162, 3) := by decide +kernel
theorem dX4_forget_26 : decode cX4_forget 26 = .ok (.iload_n 2, 1) := by decide +kernel
theorem dX4_forget_27 : decode cX4_forget 27 = .ok (.ireturn, 1) := by decide +kernel
theorem dX4_allKinds_0 : decode cX4_allKinds 0 = .ok (.iconst 1, 1) := by decide +kernel
theorem dX4_allKinds_1 : decode cX4_allKinds 1 = .ok (.istore_n 1, 1) := by decide +kernel
theorem dX4_allKinds_2 : decode cX4_allKinds 2 = .ok (.iconst 0, 1) := by decide +kernel
theorem dX4_allKinds_3 : decode cX4_allKinds 3 = .ok (.istore_n 2, 1) := by decide +kernel
theorem dX4_allKinds_4 : decode cX4_allKinds 4 = .ok (.iload_n 2, 1) := by decide +kernel
theorem dX4_allKinds_5 : decode cX4_allKinds 5 = .ok (.aload_n 0, 1) := by decide +kernel
theorem dX4_allKinds_6 : decode cX4_allKinds 6 = .ok (.getfield 150, 3) := by decide +kernel
theorem dX4_allKinds_9 : decode cX4_allKinds 9 = .ok (.if_icmp .ge 13, 3) := by decide +kernel
theorem dX4_allKinds_12 : decode cX4_allKinds 12 = .ok (.iload_n 1, 1) := by decide +kernel
theorem dX4_allKinds_13 : decode cX4_allKinds 13 = .ok (.iconst 5, 1) := by decide +kernel
theorem dX4_allKinds_14 : decode cX4_allKinds 14 = .ok (.imul, 1) := by decide +kernel
theorem dX4_allKinds_15 : decode cX4_allKinds 15 = .ok (.istore_n 1, 1) := by decide +kernel
theorem dX4_allKinds_16 : decode cX4_allKinds 16 = .ok (.iinc 2 1, 3) := by decide +kernel
theorem dX4_allKinds_19 : decode cX4_allKinds 19 = .ok (.goto (-15), 3) := by decide +kernel
theorem dX4_allKinds_22 : decode cX4_allKinds 22 = .ok (.iload_n 1, 1) := by decide +kernel
theorem dX4_allKinds_23 : decode cX4_allKinds 23 = .ok (.ireturn, 1) := by decide +kernel
theorem dX4_kindOf_0 : decode cX4_kindOf 0 = .ok (.iload_n 1, 1) := by decide +kernel
theorem dX4_kindOf_1 : decode cX4_kindOf 1 = .ok (.istore_n 3, 1) := by decide +kernel
theorem dX4_kindOf_2 : decode cX4_kindOf 2 = .ok (.aload_n 0, 1) := by decide +kernel
theorem dX4_kindOf_3 : decode cX4_kindOf 3 = .ok (.getfield 150, 3) := by decide +kernel
theorem dX4_kindOf_6 : decode cX4_kindOf 6 = .ok (.iconst 1, 1) := by decide +kernel
theorem dX4_kindOf_7 : decode cX4_kindOf 7 = .ok (.isub, 1) := by decide +kernel
theorem dX4_kindOf_8 : decode cX4_kindOf 8 = .ok (.istore 4, 2) := by decide +kernel
theorem dX4_kindOf_10 : decode cX4_kindOf 10 = .ok (.iload 4, 2) := by decide +kernel
theorem dX4_kindOf_12 : decode cX4_kindOf 12 = .ok (.iload_n 2, 1) := by decide +kernel
theorem dX4_kindOf_13 : decode cX4_kindOf 13 = .ok (.if_icmp .le 13, 3) := by decide +kernel
theorem dX4_kindOf_16 : decode cX4_kindOf 16 = .ok (.iload_n 3, 1) := by decide +kernel
theorem dX4_kindOf_17 : decode cX4_kindOf 17 = .ok (.iconst 5, 1) := by decide +kernel
theorem dX4_kindOf_18 : decode cX4_kindOf 18 = .ok (.idiv, 1) := by decide +kernel
theorem dX4_kindOf_19 : decode cX4_kindOf 19 = .ok (.istore_n 3, 1) := by decide +kernel
theorem dX4_kindOf_20 : decode cX4_kindOf 20 = .ok (.iinc 4 (-1), 3) := by decide +kernel
theorem dX4_kindOf_23 : decode cX4_kindOf 23 = .ok (.goto (-13), 3) := by decide +kernel
theorem dX4_kindOf_26 : decode cX4_kindOf 26 = .ok (.iload_n 3, 1) := by decide +kernel
theorem dX4_kindOf_27 : decode cX4_kindOf 27 = .ok (.iconst 5, 1) := by decide +kernel
theorem dX4_kindOf_28 : decode cX4_kindOf 28 = .ok (.irem, 1) := by decide +kernel
theorem dX4_kindOf_29 : decode cX4_kindOf 29 = .ok (.ireturn, 1) := by decide +kernel
theorem dX4_isAsSeen_0 : decode cX4_isAsSeen 0 = .ok (.aload_n 0, 1) := by decide +kernel
theorem dX4_isAsSeen_1 : decode cX4_isAsSeen 1 = .ok (.iconst 0, 1) := by decide +kernel
theorem dX4_isAsSeen_2 : decode cX4_isAsSeen 2 = .ok (.bipush 80, 2) := by decide +kernel
