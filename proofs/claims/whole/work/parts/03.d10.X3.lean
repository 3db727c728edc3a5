theorem dX3_weightOf_39 : decode cX3_weightOf 39 = .ok (.iaload, 1) := by decide +kernel
theorem dX3_weightOf_40 : decode cX3_weightOf 40 = .ok (.goto 4, 3) := by decide +kernel
theorem dX3_weightOf_43 : decode cX3_weightOf 43 = .ok (.iconst 0, 1) := by decide +kernel
theorem dX3_weightOf_44 : decode cX3_weightOf 44 = .ok (.istore 5, 2) := by decide +kernel
theorem dX3_weightOf_46 : decode cX3_weightOf 46 = .ok (.iload_n 1, 1) := by decide +kernel
theorem dX3_weightOf_47 : decode cX3_weightOf 47 = .ok (.iload 4, 2) := by decide +kernel
theorem dX3_weightOf_49 : decode cX3_weightOf 49 = .ok (.ishr, 1) := by decide +kernel
theorem dX3_weightOf_50 : decode cX3_weightOf 50 = .ok (.iconst 1, 1) := by decide +kernel
theorem dX3_weightOf_51 : decode cX3_weightOf 51 = .ok (.iand, 1) := by decide +kernel
theorem dX3_weightOf_52 : decode cX3_weightOf 52 = .ok (.iconst 1, 1) := by decide +kernel
theorem dX3_weightOf_53 : decode cX3_weightOf 53 = .ok (.if_icmp .ne 7, 3) := by decide +kernel
theorem dX3_weightOf_56 : decode cX3_weightOf 56 = .ok (.iconst 1, 1) := by decide +kernel
theorem dX3_weightOf_57 : decode cX3_weightOf 57 = .ok (.goto 4, 3) := by decide +kernel
theorem dX3_weightOf_60 : decode cX3_weightOf 60 = .ok (.iconst 0, 1) := by decide +kernel
theorem dX3_weightOf_61 : decode cX3_weightOf 61 = .ok (.istore 6, 2) := by decide +kernel
theorem dX3_weightOf_63 : decode cX3_weightOf 63 = .ok (.lload_n 2, 1) := by decide +kernel
theorem dX3_weightOf_64 : decode cX3_weightOf 64 = .ok (.iload 6, 2) := by decide +kernel
theorem dX3_weightOf_66 : decode cX3_weightOf 66 = .ok (.ifCond .eq 9, 3) := by decide +kernel
theorem dX3_weightOf_69 : decode cX3_weightOf 69 = .ok (.iload 5, 2) := by decide +kernel
theorem dX3_weightOf_71 : decode cX3_weightOf 71 = .ok (.i2l, 1) := by decide +kernel
theorem dX3_weightOf_72 : decode cX3_weightOf 72 = .ok (.goto 9, 3) := by decide +kernel
theorem dX3_weightOf_75 : decode cX3_weightOf 75 = .ok (.bipush 10, 2) := by decide +kernel
theorem dX3_weightOf_77 : decode cX3_weightOf 77 = .ok (.iload 5, 2) := by decide +kernel
theorem dX3_weightOf_79 : decode cX3_weightOf 79 = .ok (.isub, 1) := by decide +kernel
theorem dX3_weightOf_80 : decode cX3_weightOf 80 = .ok (.i2l, 1) := by decide +kernel
theorem dX3_weightOf_81 : decode cX3_weightOf 81 = .ok (.lmul, 1) := by decide +kernel
theorem dX3_weightOf_82 : decode cX3_weightOf 82 = .ok (.lstore_n 2, 1) := by decide +kernel
theorem dX3_weightOf_83 : decode cX3_weightOf 83 = .ok (.iinc 4 1, 3) := by decide +kernel
theorem dX3_weightOf_86 : decode cX3_weightOf 86 = .ok (.goto (-81), 3) := by decide +kernel
theorem dX3_weightOf_89 : decode cX3_weightOf 89 = .ok (.lload_n 2, 1) := by decide +kernel
theorem dX3_weightOf_90 : decode cX3_weightOf 90 = .ok (.lreturn, 1) := by decide +kernel
theorem dX3_arrivingBy_0 : decode cX3_arrivingBy 0 = .ok (.aload_n 0, 1) := by decide +kernel
theorem dX3_arrivingBy_1 : decode cX3_arrivingBy 1 = .ok (.getfield 27, 3) := by decide +kernel
theorem dX3_arrivingBy_4 : decode cX3_arrivingBy 4 = .ok (.aload_n 0, 1) := by decide +kernel
theorem dX3_arrivingBy_5 : decode cX3_arrivingBy 5 = .ok (.getfield 23, 3) := by decide +kernel
theorem dX3_arrivingBy_8 : decode cX3_arrivingBy 8 = .ok (.invokevirtual 84, 3) := by decide +kernel
theorem dX3_arrivingBy_11 : decode cX3_arrivingBy 11 = .ok (.iconst 0, 1) := by decide +kernel
theorem dX3_arrivingBy_12 : decode cX3_arrivingBy 12 = .ok (.istore_n 3, 1) := by decide +kernel
theorem dX3_arrivingBy_13 : decode cX3_arrivingBy 13 = .ok (.iload_n 3, 1) := by decide +kernel
theorem dX3_arrivingBy_14 : decode cX3_arrivingBy 14 = .ok (.aload_n 0, 1) := by decide +kernel
theorem dX3_arrivingBy_15 : decode cX3_arrivingBy 15 = .ok (.getfield 27, 3) := by decide +kernel
theorem dX3_arrivingBy_18 : decode cX3_arrivingBy 18 = .ok (.getfield 94, 3) := by decide +kernel
theorem dX3_arrivingBy_21 : decode cX3_arrivingBy 21 = .ok (.if_icmp .ge 32, 3) := by decide +kernel
theorem dX3_arrivingBy_24 : decode cX3_arrivingBy 24 = .ok (.aload_n 0, 1) := by decide +kernel
theorem dX3_arrivingBy_25 : decode cX3_arrivingBy 25 = .ok (.getfield 27, 3) := by decide +kernel
theorem dX3_arrivingBy_28 : decode cX3_arrivingBy 28 = .ok (.getfield 147, 3) := by decide +kernel
theorem dX3_arrivingBy_31 : decode cX3_arrivingBy 31 = .ok (.iload_n 3, 1) := by decide +kernel
theorem dX3_arrivingBy_32 : decode cX3_arrivingBy 32 = .ok (.iload_n 1, 1) := by decide +kernel
theorem dX3_arrivingBy_33 : decode cX3_arrivingBy 33 = .ok (.iload_n 3, 1) := by decide +kernel
theorem dX3_arrivingBy_34 : decode cX3_arrivingBy 34 = .ok (.ishr, 1) := by decide +kernel
theorem dX3_arrivingBy_35 : decode cX3_arrivingBy 35 = .ok (.iconst 1, 1) := by decide +kernel
theorem dX3_arrivingBy_36 : decode cX3_arrivingBy 36 = .ok (.iand, 1) := by decide +kernel
theorem dX3_arrivingBy_37 : decode cX3_arrivingBy 37 = .ok (.iconst 1, 1) := by decide +kernel
theorem dX3_arrivingBy_38 : decode cX3_arrivingBy 38 = .ok (.if_icmp .ne 7, 3) := by decide +kernel
theorem dX3_arrivingBy_41 : decode cX3_arrivingBy 41 = .ok (.iconst 1, 1) := by decide +kernel
theorem dX3_arrivingBy_42 : decode cX3_arrivingBy 42 = .ok (.goto 4, 3) := by decide +kernel
theorem dX3_arrivingBy_45 : decode cX3_arrivingBy 45 = .ok (.iconst 0, 1) := by decide +kernel
theorem dX3_arrivingBy_46 : decode cX3_arrivingBy 46 = .ok (.bastore, 1) := by decide +kernel
theorem dX3_arrivingBy_47 : decode cX3_arrivingBy 47 = .ok (.iinc 3 1, 3) := by decide +kernel
theorem dX3_arrivingBy_50 : decode cX3_arrivingBy 50 = .ok (.goto (-37), 3) := by decide +kernel
theorem dX3_arrivingBy_53 : decode cX3_arrivingBy 53 = .ok (.aload_n 0, 1) := by decide +kernel
theorem dX3_arrivingBy_54 : decode cX3_arrivingBy 54 = .ok (.getfield 27, 3) := by decide +kernel
theorem dX3_arrivingBy_57 : decode cX3_arrivingBy 57 = .ok (.iload_n 2, 1) := by decide +kernel
theorem dX3_arrivingBy_58 : decode cX3_arrivingBy 58 = .ok (.invokevirtual 186, 3) := by decide +kernel
theorem dX3_arrivingBy_61 : decode cX3_arrivingBy 61 = .ok (.pop, 1) := by decide +kernel
theorem dX3_arrivingBy_62 : decode cX3_arrivingBy 62 = .ok (.aload_n 0, 1) := by decide +kernel
theorem dX3_arrivingBy_63 : decode cX3_arrivingBy 63 = .ok (.getfield 27, 3) := by decide +kernel
theorem dX3_arrivingBy_66 : decode cX3_arrivingBy 66 = .ok (.invokevirtual 189, 3) := by decide +kernel
theorem dX3_arrivingBy_69 : decode cX3_arrivingBy 69 = .ok (.ireturn, 1) := by decide +kernel
theorem dX3_isAsSeen_0 : decode cX3_isAsSeen 0 = .ok (.aload_n 0, 1) := by decide +kernel
theorem dX3_isAsSeen_1 : decode cX3_isAsSeen 1 = .ok (.getfield 27, 3) := by decide +kernel
theorem dX3_isAsSeen_4 : decode cX3_isAsSeen 4 = .ok (.aload_n 0, 1) := by decide +kernel
theorem dX3_isAsSeen_5 : decode cX3_isAsSeen 5 = .ok (.getfield 23, 3) := by decide +kernel
theorem dX3_isAsSeen_8 : decode cX3_isAsSeen 8 = .ok (.invokevirtual 84, 3) := by decide +kernel
theorem dX3_isAsSeen_11 : decode cX3_isAsSeen 11 = .ok (.iload_n 1, 1) := by decide +kernel
theorem dX3_isAsSeen_12 : decode cX3_isAsSeen 12 = .ok (.istore_n 2, 1) := by decide +kernel
theorem dX3_isAsSeen_13 : decode cX3_isAsSeen 13 = .ok (.aload_n 0, 1) := by decide +kernel
theorem dX3_isAsSeen_14 : decode cX3_isAsSeen 14 = .ok (.getfield 27, 3) := by decide +kernel
theorem dX3_isAsSeen_17 : decode cX3_isAsSeen 17 = .ok (.getfield 91, 3) := by decide +kernel
theorem dX3_isAsSeen_20 : decode cX3_isAsSeen 20 = .ok (.iconst 1, 1) := by decide +kernel
theorem dX3_isAsSeen_21 : decode cX3_isAsSeen 21 = .ok (.isub, 1) := by decide +kernel
theorem dX3_isAsSeen_22 : decode cX3_isAsSeen 22 = .ok (.istore_n 3, 1) := by decide +kernel
theorem dX3_isAsSeen_23 : decode cX3_isAsSeen 23 = .ok (.iload_n 3, 1) := by decide +kernel
theorem dX3_isAsSeen_24 : decode cX3_isAsSeen 24 = .ok (.ifCond .lt 25, 3) := by decide +kernel
theorem dX3_isAsSeen_27 : decode cX3_isAsSeen 27 = .ok (.aload_n 0, 1) := by decide +kernel
theorem dX3_isAsSeen_28 : decode cX3_isAsSeen 28 = .ok (.getfield 27, 3) := by decide +kernel
theorem dX3_isAsSeen_31 : decode cX3_isAsSeen 31 = .ok (.getfield 122, 3) := by decide +kernel
theorem dX3_isAsSeen_34 : decode cX3_isAsSeen 34 = .ok (.iload_n 3, 1) := by decide +kernel
theorem dX3_isAsSeen_35 : decode cX3_isAsSeen 35 = .ok (.iload_n 2, 1) := by decide +kernel
theorem dX3_isAsSeen_36 : decode cX3_isAsSeen 36 = .ok (.iconst 5, 1) := by decide +kernel
theorem dX3_isAsSeen_37 : decode cX3_isAsSeen 37 = .ok (.irem, 1) := by decide +kernel
theorem dX3_isAsSeen_38 : decode cX3_isAsSeen 38 = .ok (.iastore, 1) := by decide +kernel
theorem dX3_isAsSeen_39 : decode cX3_isAsSeen 39 = .ok (.iload_n 2, 1) := by decide +kernel
theorem dX3_isAsSeen_40 : decode cX3_isAsSeen 40 = .ok (.iconst 5, 1) := by decide +kernel
theorem dX3_isAsSeen_41 : decode cX3_isAsSeen 41 = .ok (.idiv, 1) := by decide +kernel
theorem dX3_isAsSeen_42 : decode cX3_isAsSeen 42 = .ok (.istore_n 2, 1) := by decide +kernel
theorem dX3_isAsSeen_43 : decode cX3_isAsSeen 43 = .ok (.iinc 3 (-1), 3) := by decide +kernel
theorem dX3_isAsSeen_46 : decode cX3_isAsSeen 46 = .ok (.goto (-23), 3) := by decide +kernel
theorem dX3_isAsSeen_49 : decode cX3_isAsSeen 49 = .ok (.aload_n 0, 1) := by decide +kernel
theorem dX3_isAsSeen_50 : decode cX3_isAsSeen 50 = .ok (.invokevirtual 260, 3) := by decide +kernel
theorem dX3_isAsSeen_53 : decode cX3_isAsSeen 53 = .ok (.istore_n 3, 1) := by decide +kernel
theorem dX3_isAsSeen_54 : decode cX3_isAsSeen 54 = .ok (.iconst 1, 1) := by decide +kernel
theorem dX3_isAsSeen_55 : decode cX3_isAsSeen 55 = .ok (.istore 4, 2) := by decide +kernel
theorem dX3_isAsSeen_57 : decode cX3_isAsSeen 57 = .ok (.iload 4, 2) := by decide +kernel
theorem dX3_isAsSeen_59 : decode cX3_isAsSeen 59 = .ok (.iload_n 3, 1) := by decide +kernel
theorem dX3_isAsSeen_60 : decode cX3_isAsSeen 60 = .ok (.if_icmp .gt 35, 3) := by decide +kernel
theorem dX3_isAsSeen_63 : decode cX3_isAsSeen 63 = .ok (.aload_n 0, 1) := by decide +kernel
theorem dX3_isAsSeen_64 : decode cX3_isAsSeen 64 = .ok (.getfield 27, 3) := by decide +kernel
theorem dX3_isAsSeen_67 : decode cX3_isAsSeen 67 = .ok (.iconst 1, 1) := by decide +kernel
theorem dX3_isAsSeen_68 : decode cX3_isAsSeen 68 = .ok (.aload_n 0, 1) := by decide +kernel
theorem dX3_isAsSeen_69 : decode cX3_isAsSeen 69 = .ok (.getfield 23, 3) := by decide +kernel
theorem dX3_isAsSeen_72 : decode cX3_isAsSeen 72 = .ok (.getfield 109, 3) := by decide +kernel
theorem dX3_isAsSeen_75 : decode cX3_isAsSeen 75 = .ok (.invokevirtual 172, 3) := by decide +kernel
theorem dX3_isAsSeen_78 : decode cX3_isAsSeen 78 = .ok (.aload_n 0, 1) := by decide +kernel
theorem dX3_isAsSeen_79 : decode cX3_isAsSeen 79 = .ok (.iload 4, 2) := by decide +kernel
theorem dX3_isAsSeen_81 : decode cX3_isAsSeen 81 = .ok (.invokevirtual 263, 3) := by decide +kernel
theorem dX3_isAsSeen_84 : decode cX3_isAsSeen 84 = .ok (.ifCond .ne 5, 3) := by decide +kernel
theorem dX3_isAsSeen_87 : decode cX3_isAsSeen 87 = .ok (.iconst 0, 1) := by decide +kernel
theorem dX3_isAsSeen_88 : decode cX3_isAsSeen 88 = .ok (.ireturn, 1) := by decide +kernel
theorem dX3_isAsSeen_89 : decode cX3_isAsSeen 89 = .ok (.iinc 4 1, 3) := by decide +kernel
theorem dX3_isAsSeen_92 : decode cX3_isAsSeen 92 = .ok (.goto (-35), 3) := by decide +kernel
theorem dX3_isAsSeen_95 : decode cX3_isAsSeen 95 = .ok (.iconst 1, 1) := by decide +kernel
theorem dX3_isAsSeen_96 : decode cX3_isAsSeen 96 = .ok (.ireturn, 1) := by decide +kernel
theorem dX3_lastHourSeen_0 : decode cX3_lastHourSeen 0 = .ok (.iconst 0, 1) := by decide +kernel
theorem dX3_lastHourSeen_1 : decode cX3_lastHourSeen 1 = .ok (.istore_n 1, 1) := by decide +kernel
theorem dX3_lastHourSeen_2 : decode cX3_lastHourSeen 2 = .ok (.iconst 0, 1) := by decide +kernel
theorem dX3_lastHourSeen_3 : decode cX3_lastHourSeen 3 = .ok (.istore_n 2, 1) := by decide +kernel
theorem dX3_lastHourSeen_4 : decode cX3_lastHourSeen 4 = .ok (.iload_n 2, 1) := by decide +kernel
theorem dX3_lastHourSeen_5 : decode cX3_lastHourSeen 5 = .ok (.aload_n 0, 1) := by decide +kernel
theorem dX3_lastHourSeen_6 : decode cX3_lastHourSeen 6 = .ok (.getfield 57, 3) := by decide +kernel
theorem dX3_lastHourSeen_9 : decode cX3_lastHourSeen 9 = .ok (.if_icmp .ge 20, 3) := by decide +kernel
theorem dX3_lastHourSeen_12 : decode cX3_lastHourSeen 12 = .ok (.iload_n 1, 1) := by decide +kernel
theorem dX3_lastHourSeen_13 : decode cX3_lastHourSeen 13 = .ok (.aload_n 0, 1) := by decide +kernel
theorem dX3_lastHourSeen_14 : decode cX3_lastHourSeen 14 = .ok (.getfield 50, 3) := by decide +kernel
theorem dX3_lastHourSeen_17 : decode cX3_lastHourSeen 17 = .ok (.iload_n 2, 1) := by decide +kernel
theorem dX3_lastHourSeen_18 : decode cX3_lastHourSeen 18 = .ok (.iaload, 1) := by decide +kernel
theorem dX3_lastHourSeen_19 : decode cX3_lastHourSeen 19 = .ok (.invokestatic 266, 3) := by decide +kernel
theorem dX3_lastHourSeen_22 : decode cX3_lastHourSeen 22 = .ok (.istore_n 1, 1) := by decide +kernel
theorem dX3_lastHourSeen_23 : decode cX3_lastHourSeen 23 = .ok (.iinc 2 1, 3) := by decide +kernel
theorem dX3_lastHourSeen_26 : decode cX3_lastHourSeen 26 = .ok (.goto (-22), 3) := by decide +kernel
theorem dX3_lastHourSeen_29 : decode cX3_lastHourSeen 29 = .ok (.iload_n 1, 1) := by decide +kernel
theorem dX3_lastHourSeen_30 : decode cX3_lastHourSeen 30 = .ok (.ireturn, 1) := by decide +kernel
theorem dX3_isAsSeenBehind_0 : decode cX3_isAsSeenBehind 0 = .ok (.iconst 0, 1) := by decide +kernel
theorem dX3_isAsSeenBehind_1 : decode cX3_isAsSeenBehind 1 = .ok (.istore_n 2, 1) := by decide +kernel
theorem dX3_isAsSeenBehind_2 : decode cX3_isAsSeenBehind 2 = .ok (.iload_n 2, 1) := by decide +kernel
theorem dX3_isAsSeenBehind_3 : decode cX3_isAsSeenBehind 3 = .ok (.aload_n 0, 1) := by decide +kernel
theorem dX3_isAsSeenBehind_4 : decode cX3_isAsSeenBehind 4 = .ok (.getfield 57, 3) := by decide +kernel
theorem dX3_isAsSeenBehind_7 : decode cX3_isAsSeenBehind 7 = .ok (.if_icmp .ge 37, 3) := by decide +kernel
theorem dX3_isAsSeenBehind_10 : decode cX3_isAsSeenBehind 10 = .ok (.aload_n 0, 1) := by decide +kernel
theorem dX3_isAsSeenBehind_11 : decode cX3_isAsSeenBehind 11 = .ok (.getfield 50, 3) := by decide +kernel
theorem dX3_isAsSeenBehind_14 : decode cX3_isAsSeenBehind 14 = .ok (.iload_n 2, 1) := by decide +kernel
theorem dX3_isAsSeenBehind_15 : decode cX3_isAsSeenBehind 15 = .ok (.iaload, 1) := by decide +kernel
theorem dX3_isAsSeenBehind_16 : decode cX3_isAsSeenBehind 16 = .ok (.iload_n 1, 1) := by decide +kernel
theorem dX3_isAsSeenBehind_17 : decode cX3_isAsSeenBehind 17 = .ok (.if_icmp .ne 21, 3) := by decide +kernel
theorem dX3_isAsSeenBehind_20 : decode cX3_isAsSeenBehind 20 = .ok (.aload_n 0, 1) := by decide +kernel
theorem dX3_isAsSeenBehind_21 : decode cX3_isAsSeenBehind 21 = .ok (.getfield 54, 3) := by decide +kernel
theorem dX3_isAsSeenBehind_24 : decode cX3_isAsSeenBehind 24 = .ok (.iload_n 2, 1) := by decide +kernel
theorem dX3_isAsSeenBehind_25 : decode cX3_isAsSeenBehind 25 = .ok (.iaload, 1) := by decide +kernel
theorem dX3_isAsSeenBehind_26 : decode cX3_isAsSeenBehind 26 = .ok (.aload_n 0, 1) := by decide +kernel
theorem dX3_isAsSeenBehind_27 : decode cX3_isAsSeenBehind 27 = .ok (.getfield 27, 3) := by decide +kernel
theorem dX3_isAsSeenBehind_30 : decode cX3_isAsSeenBehind 30 = .ok (.getfield 106, 3) := by decide +kernel
theorem dX3_isAsSeenBehind_33 : decode cX3_isAsSeenBehind 33 = .ok (.if_icmp .eq 5, 3) := by decide +kernel
theorem dX3_isAsSeenBehind_36 : decode cX3_isAsSeenBehind 36 = .ok (.iconst 0, 1) := by decide +kernel
theorem dX3_isAsSeenBehind_37 : decode cX3_isAsSeenBehind 37 = .ok (.ireturn, 1) := by decide +kernel
theorem dX3_isAsSeenBehind_38 : decode cX3_isAsSeenBehind 38 = .ok (.iinc 2 1, 3) := by decide +kernel
theorem dX3_isAsSeenBehind_41 : decode cX3_isAsSeenBehind 41 = .ok (.goto (-39), 3) := by decide +kernel
theorem dX3_isAsSeenBehind_44 : decode cX3_isAsSeenBehind 44 = .ok (.iconst 1, 1) := by decide +kernel
theorem dX3_isAsSeenBehind_45 : decode cX3_isAsSeenBehind 45 = .ok (.ireturn, 1) := by decide +kernel
theorem dX3_power_0 : decode cX3_power 0 = .ok (.lconst 1, 1) := by decide +kernel
theorem dX3_power_1 : decode cX3_power 1 = .ok (.lstore_n 2, 1) := by decide +kernel
theorem dX3_power_2 : decode cX3_power 2 = .ok (.iconst 0, 1) := by decide +kernel
theorem dX3_power_3 : decode cX3_power 3 = .ok (.istore 4, 2) := by decide +kernel
theorem dX3_power_5 : decode cX3_power 5 = .ok (.iload 4, 2) := by decide +kernel
theorem dX3_power_7 : decode cX3_power 7 = .ok (.iload_n 1, 1) := by decide +kernel
theorem dX3_power_8 : decode cX3_power 8 = .ok (.if_icmp .ge 14, 3) := by decide +kernel
theorem dX3_power_11 : decode cX3_power 11 = .ok (.lload_n 2, 1) := by decide +kernel
theorem dX3_power_12 : decode cX3_power 12 = .ok (.iload_n 0, 1) := by decide +kernel
theorem dX3_power_13 : decode cX3_power 13 = .ok (.i2l, 1) := by decide +kernel
theorem dX3_power_14 : decode cX3_power 14 = .ok (.lmul, 1) := by decide +kernel
theorem dX3_power_15 : decode cX3_power 15 = .ok (.lstore_n 2, 1) := by decide +kernel
theorem dX3_power_16 : decode cX3_power 16 = .ok (.iinc 4 1, 3) := by decide +kernel
theorem dX3_power_19 : decode cX3_power 19 = .ok (.goto (-14), 3) := by decide +kernel
theorem dX3_power_22 : decode cX3_power 22 = .ok (.lload_n 2, 1) := by decide +kernel
theorem dX3_power_23 : decode cX3_power 23 = .ok (.lreturn, 1) := by decide +kernel
theorem dX3_partOfFraction_0 : decode cX3_partOfFraction 0 = .ok (.lload_n 0, 1) := by decide +kernel
theorem dX3_partOfFraction_1 : decode cX3_partOfFraction 1 = .ok (.lload_n 2, 1) := by decide +kernel
theorem dX3_partOfFraction_2 : decode cX3_partOfFraction 2 = .ok (.invokestatic 271, 3) := by decide +kernel
theorem dX3_partOfFraction_5 : decode cX3_partOfFraction 5 = .ok (.lstore 5, 2) := by decide +kernel
theorem dX3_partOfFraction_7 : decode cX3_partOfFraction 7 = .ok (.lload 5, 2) := by decide +kernel
theorem dX3_partOfFraction_9 : decode cX3_partOfFraction 9 = .ok (.lconst 0, 1) := by decide +kernel
theorem dX3_partOfFraction_10 : decode cX3_partOfFraction 10 = .ok (.lcmp, 1) := by decide +kernel
theorem dX3_partOfFraction_11 : decode cX3_partOfFraction 11 = .ok (.ifCond .gt 14, 3) := by decide +kernel
theorem dX3_partOfFraction_14 : decode cX3_partOfFraction 14 = .ok (.iload 4, 2) := by decide +kernel
theorem dX3_partOfFraction_16 : decode cX3_partOfFraction 16 = .ok (.ifCond .ne 7, 3) := by decide +kernel
theorem dX3_partOfFraction_19 : decode cX3_partOfFraction 19 = .ok (.lconst 0, 1) := by decide +kernel
theorem dX3_partOfFraction_20 : decode cX3_partOfFraction 20 = .ok (.goto 4, 3) := by decide +kernel
theorem dX3_partOfFraction_23 : decode cX3_partOfFraction 23 = .ok (.lconst 1, 1) := by decide +kernel
theorem dX3_partOfFraction_24 : decode cX3_partOfFraction 24 = .ok (.lreturn, 1) := by decide +kernel
theorem dX3_partOfFraction_25 : decode cX3_partOfFraction 25 = .ok (.iload 4, 2) := by decide +kernel
theorem dX3_partOfFraction_27 : decode cX3_partOfFraction 27 = .ok (.ifCond .ne 7, 3) := by decide +kernel
theorem dX3_partOfFraction_30 : decode cX3_partOfFraction 30 = .ok (.lload_n 0, 1) := by decide +kernel
theorem dX3_partOfFraction_31 : decode cX3_partOfFraction 31 = .ok (.goto 4, 3) := by decide +kernel
theorem dX3_partOfFraction_34 : decode cX3_partOfFraction 34 = .ok (.lload_n 2, 1) := by decide +kernel
theorem dX3_partOfFraction_35 : decode cX3_partOfFraction 35 = .ok (.lload 5, 2) := by decide +kernel
theorem dX3_partOfFraction_37 : decode cX3_partOfFraction 37 = .ok (.ldiv, 1) := by decide +kernel
theorem dX3_partOfFraction_38 : decode cX3_partOfFraction 38 = .ok (.lreturn, 1) := by decide +kernel
theorem dX3_commonDivisor_0 : decode cX3_commonDivisor 0 = .ok (.lload_n 0, 1) := by decide +kernel
theorem dX3_commonDivisor_1 : decode cX3_commonDivisor 1 = .ok (.lstore 4, 2) := by decide +kernel
theorem dX3_commonDivisor_3 : decode cX3_commonDivisor 3 = .ok (.lload_n 2, 1) := by decide +kernel
theorem dX3_commonDivisor_4 : decode cX3_commonDivisor 4 = .ok (.lstore 6, 2) := by decide +kernel
theorem dX3_commonDivisor_6 : decode cX3_commonDivisor 6 = .ok (.iconst 0, 1) := by decide +kernel
theorem dX3_commonDivisor_7 : decode cX3_commonDivisor 7 = .ok (.istore 8, 2) := by decide +kernel
theorem dX3_commonDivisor_9 : decode cX3_commonDivisor 9 = .ok (.iload 8, 2) := by decide +kernel
theorem dX3_commonDivisor_11 : decode cX3_commonDivisor 11 = .ok (.sipush 200, 3) := by decide +kernel
theorem dX3_commonDivisor_14 : decode cX3_commonDivisor 14 = .ok (.if_icmp .ge 31, 3) := by decide +kernel
theorem dX3_commonDivisor_17 : decode cX3_commonDivisor 17 = .ok (.lload 6, 2) := by decide +kernel
theorem dX3_commonDivisor_19 : decode cX3_commonDivisor 19 = .ok (.lconst 0, 1) := by decide +kernel
theorem dX3_commonDivisor_20 : decode cX3_commonDivisor 20 = .ok (.lcmp, 1) := by decide +kernel
theorem dX3_commonDivisor_21 : decode cX3_commonDivisor 21 = .ok (.ifCond .eq 24, 3) := by decide +kernel
theorem dX3_commonDivisor_24 : decode cX3_commonDivisor 24 = .ok (.lload 4, 2) := by decide +kernel
theorem dX3_commonDivisor_26 : decode cX3_commonDivisor 26 = .ok (.lload 6, 2) := by decide +kernel
theorem dX3_commonDivisor_28 : decode cX3_commonDivisor 28 = .ok (.lrem, 1) := by decide +kernel
theorem dX3_commonDivisor_29 : decode cX3_commonDivisor 29 = .ok (.lstore 9, 2) := by decide +kernel
theorem dX3_commonDivisor_31 : decode cX3_commonDivisor 31 = .ok (.lload 6, 2) := by decide +kernel
theorem dX3_commonDivisor_33 : decode cX3_commonDivisor 33 = .ok (.lstore 4, 2) := by decide +kernel
theorem dX3_commonDivisor_35 : decode cX3_commonDivisor 35 = .ok (.lload 9, 2) := by decide +kernel
theorem dX3_commonDivisor_37 : decode cX3_commonDivisor 37 = .ok (.lstore 6, 2) := by decide +kernel
theorem dX3_commonDivisor_39 : decode cX3_commonDivisor 39 = .ok (.iinc 8 1, 3) := by decide +kernel
theorem dX3_commonDivisor_42 : decode cX3_commonDivisor 42 = .ok (.goto (-33), 3) := by decide +kernel
theorem dX3_commonDivisor_45 : decode cX3_commonDivisor 45 = .ok (.lload 4, 2) := by decide +kernel
theorem dX3_commonDivisor_47 : decode cX3_commonDivisor 47 = .ok (.lreturn, 1) := by decide +kernel
