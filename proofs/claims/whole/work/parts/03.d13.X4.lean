theorem dX4_isAsSeen_4 : decode cX4_isAsSeen 4 = .ok (.invokevirtual 250, 3) := by decide +kernel
theorem dX4_isAsSeen_7 : decode cX4_isAsSeen 7 = .ok (.iconst 0, 1) := by decide +kernel
theorem dX4_isAsSeen_8 : decode cX4_isAsSeen 8 = .ok (.istore_n 2, 1) := by decide +kernel
theorem dX4_isAsSeen_9 : decode cX4_isAsSeen 9 = .ok (.iload_n 2, 1) := by decide +kernel
theorem dX4_isAsSeen_10 : decode cX4_isAsSeen 10 = .ok (.aload_n 0, 1) := by decide +kernel
theorem dX4_isAsSeen_11 : decode cX4_isAsSeen 11 = .ok (.getfield 150, 3) := by decide +kernel
theorem dX4_isAsSeen_14 : decode cX4_isAsSeen 14 = .ok (.if_icmp .ge 24, 3) := by decide +kernel
theorem dX4_isAsSeen_17 : decode cX4_isAsSeen 17 = .ok (.aload_n 0, 1) := by decide +kernel
theorem dX4_isAsSeen_18 : decode cX4_isAsSeen 18 = .ok (.getfield 7, 3) := by decide +kernel
theorem dX4_isAsSeen_21 : decode cX4_isAsSeen 21 = .ok (.bipush 80, 2) := by decide +kernel
theorem dX4_isAsSeen_23 : decode cX4_isAsSeen 23 = .ok (.iload_n 2, 1) := by decide +kernel
theorem dX4_isAsSeen_24 : decode cX4_isAsSeen 24 = .ok (.iadd, 1) := by decide +kernel
theorem dX4_isAsSeen_25 : decode cX4_isAsSeen 25 = .ok (.aload_n 0, 1) := by decide +kernel
theorem dX4_isAsSeen_26 : decode cX4_isAsSeen 26 = .ok (.iload_n 1, 1) := by decide +kernel
theorem dX4_isAsSeen_27 : decode cX4_isAsSeen 27 = .ok (.iload_n 2, 1) := by decide +kernel
theorem dX4_isAsSeen_28 : decode cX4_isAsSeen 28 = .ok (.invokevirtual 275, 3) := by decide +kernel
theorem dX4_isAsSeen_31 : decode cX4_isAsSeen 31 = .ok (.iastore, 1) := by decide +kernel
theorem dX4_isAsSeen_32 : decode cX4_isAsSeen 32 = .ok (.iinc 2 1, 3) := by decide +kernel
theorem dX4_isAsSeen_35 : decode cX4_isAsSeen 35 = .ok (.goto (-26), 3) := by decide +kernel
theorem dX4_isAsSeen_38 : decode cX4_isAsSeen 38 = .ok (.iconst 1, 1) := by decide +kernel
theorem dX4_isAsSeen_39 : decode cX4_isAsSeen 39 = .ok (.istore_n 2, 1) := by decide +kernel
theorem dX4_isAsSeen_40 : decode cX4_isAsSeen 40 = .ok (.iconst 1, 1) := by decide +kernel
theorem dX4_isAsSeen_41 : decode cX4_isAsSeen 41 = .ok (.istore_n 3, 1) := by decide +kernel
theorem dX4_isAsSeen_42 : decode cX4_isAsSeen 42 = .ok (.iload_n 3, 1) := by decide +kernel
theorem dX4_isAsSeen_43 : decode cX4_isAsSeen 43 = .ok (.bipush 24, 2) := by decide +kernel
theorem dX4_isAsSeen_45 : decode cX4_isAsSeen 45 = .ok (.if_icmp .gt 89, 3) := by decide +kernel
theorem dX4_isAsSeen_48 : decode cX4_isAsSeen 48 = .ok (.iload_n 2, 1) := by decide +kernel
theorem dX4_isAsSeen_49 : decode cX4_isAsSeen 49 = .ok (.ifCond .eq 85, 3) := by decide +kernel
theorem dX4_isAsSeen_52 : decode cX4_isAsSeen 52 = .ok (.aload_n 0, 1) := by decide +kernel
theorem dX4_isAsSeen_53 : decode cX4_isAsSeen 53 = .ok (.bipush 80, 2) := by decide +kernel
theorem dX4_isAsSeen_55 : decode cX4_isAsSeen 55 = .ok (.iconst 1, 1) := by decide +kernel
theorem dX4_isAsSeen_56 : decode cX4_isAsSeen 56 = .ok (.aload_n 0, 1) := by decide +kernel
theorem dX4_isAsSeen_57 : decode cX4_isAsSeen 57 = .ok (.getfield 7, 3) := by decide +kernel
theorem dX4_isAsSeen_60 : decode cX4_isAsSeen 60 = .ok (.bipush 11, 2) := by decide +kernel
theorem dX4_isAsSeen_62 : decode cX4_isAsSeen 62 = .ok (.iaload, 1) := by decide +kernel
theorem dX4_isAsSeen_63 : decode cX4_isAsSeen 63 = .ok (.invokevirtual 244, 3) := by decide +kernel
theorem dX4_isAsSeen_66 : decode cX4_isAsSeen 66 = .ok (.iconst 0, 1) := by decide +kernel
theorem dX4_isAsSeen_67 : decode cX4_isAsSeen 67 = .ok (.istore 4, 2) := by decide +kernel
theorem dX4_isAsSeen_69 : decode cX4_isAsSeen 69 = .ok (.iload 4, 2) := by decide +kernel
theorem dX4_isAsSeen_71 : decode cX4_isAsSeen 71 = .ok (.aload_n 0, 1) := by decide +kernel
theorem dX4_isAsSeen_72 : decode cX4_isAsSeen 72 = .ok (.getfield 162, 3) := by decide +kernel
theorem dX4_isAsSeen_75 : decode cX4_isAsSeen 75 = .ok (.if_icmp .ge 53, 3) := by decide +kernel
theorem dX4_isAsSeen_78 : decode cX4_isAsSeen 78 = .ok (.iload_n 2, 1) := by decide +kernel
theorem dX4_isAsSeen_79 : decode cX4_isAsSeen 79 = .ok (.ifCond .eq 41, 3) := by decide +kernel
theorem dX4_isAsSeen_82 : decode cX4_isAsSeen 82 = .ok (.aload_n 0, 1) := by decide +kernel
theorem dX4_isAsSeen_83 : decode cX4_isAsSeen 83 = .ok (.getfield 41, 3) := by decide +kernel
theorem dX4_isAsSeen_86 : decode cX4_isAsSeen 86 = .ok (.iconst 2, 1) := by decide +kernel
theorem dX4_isAsSeen_87 : decode cX4_isAsSeen 87 = .ok (.iload 4, 2) := by decide +kernel
theorem dX4_isAsSeen_89 : decode cX4_isAsSeen 89 = .ok (.imul, 1) := by decide +kernel
theorem dX4_isAsSeen_90 : decode cX4_isAsSeen 90 = .ok (.iaload, 1) := by decide +kernel
theorem dX4_isAsSeen_91 : decode cX4_isAsSeen 91 = .ok (.iload_n 3, 1) := by decide +kernel
theorem dX4_isAsSeen_92 : decode cX4_isAsSeen 92 = .ok (.if_icmp .ne 24, 3) := by decide +kernel
theorem dX4_isAsSeen_95 : decode cX4_isAsSeen 95 = .ok (.aload_n 0, 1) := by decide +kernel
theorem dX4_isAsSeen_96 : decode cX4_isAsSeen 96 = .ok (.getfield 41, 3) := by decide +kernel
theorem dX4_isAsSeen_99 : decode cX4_isAsSeen 99 = .ok (.iconst 2, 1) := by decide +kernel
theorem dX4_isAsSeen_100 : decode cX4_isAsSeen 100 = .ok (.iload 4, 2) := by decide +kernel
theorem dX4_isAsSeen_102 : decode cX4_isAsSeen 102 = .ok (.imul, 1) := by decide +kernel
theorem dX4_isAsSeen_103 : decode cX4_isAsSeen 103 = .ok (.iconst 1, 1) := by decide +kernel
theorem dX4_isAsSeen_104 : decode cX4_isAsSeen 104 = .ok (.iadd, 1) := by decide +kernel
theorem dX4_isAsSeen_105 : decode cX4_isAsSeen 105 = .ok (.iaload, 1) := by decide +kernel
theorem dX4_isAsSeen_106 : decode cX4_isAsSeen 106 = .ok (.aload_n 0, 1) := by decide +kernel
theorem dX4_isAsSeen_107 : decode cX4_isAsSeen 107 = .ok (.getfield 7, 3) := by decide +kernel
theorem dX4_isAsSeen_110 : decode cX4_isAsSeen 110 = .ok (.bipush 88, 2) := by decide +kernel
theorem dX4_isAsSeen_112 : decode cX4_isAsSeen 112 = .ok (.iaload, 1) := by decide +kernel
theorem dX4_isAsSeen_113 : decode cX4_isAsSeen 113 = .ok (.if_icmp .ne 7, 3) := by decide +kernel
theorem dX4_isAsSeen_116 : decode cX4_isAsSeen 116 = .ok (.iconst 1, 1) := by decide +kernel
theorem dX4_isAsSeen_117 : decode cX4_isAsSeen 117 = .ok (.goto 4, 3) := by decide +kernel
theorem dX4_isAsSeen_120 : decode cX4_isAsSeen 120 = .ok (.iconst 0, 1) := by decide +kernel
theorem dX4_isAsSeen_121 : decode cX4_isAsSeen 121 = .ok (.istore_n 2, 1) := by decide +kernel
theorem dX4_isAsSeen_122 : decode cX4_isAsSeen 122 = .ok (.iinc 4 1, 3) := by decide +kernel
theorem dX4_isAsSeen_125 : decode cX4_isAsSeen 125 = .ok (.goto (-56), 3) := by decide +kernel
theorem dX4_isAsSeen_128 : decode cX4_isAsSeen 128 = .ok (.iinc 3 1, 3) := by decide +kernel
theorem dX4_isAsSeen_131 : decode cX4_isAsSeen 131 = .ok (.goto (-89), 3) := by decide +kernel
theorem dX4_isAsSeen_134 : decode cX4_isAsSeen 134 = .ok (.iload_n 2, 1) := by decide +kernel
theorem dX4_isAsSeen_135 : decode cX4_isAsSeen 135 = .ok (.ireturn, 1) := by decide +kernel
theorem dX4_fits_0 : decode cX4_fits 0 = .ok (.iload_n 1, 1) := by decide +kernel
theorem dX4_fits_1 : decode cX4_fits 1 = .ok (.i2l, 1) := by decide +kernel
theorem dX4_fits_2 : decode cX4_fits 2 = .ok (.lconst 0, 1) := by decide +kernel
theorem dX4_fits_3 : decode cX4_fits 3 = .ok (.lconst 1, 1) := by decide +kernel
theorem dX4_fits_4 : decode cX4_fits 4 = .ok (.invokestatic 59, 3) := by decide +kernel
theorem dX4_fits_7 : decode cX4_fits 7 = .ok (.ifCond .ne 5, 3) := by decide +kernel
theorem dX4_fits_10 : decode cX4_fits 10 = .ok (.iconst (-1), 1) := by decide +kernel
theorem dX4_fits_11 : decode cX4_fits 11 = .ok (.ireturn, 1) := by decide +kernel
theorem dX4_fits_12 : decode cX4_fits 12 = .ok (.iconst 0, 1) := by decide +kernel
theorem dX4_fits_13 : decode cX4_fits 13 = .ok (.istore_n 2, 1) := by decide +kernel
theorem dX4_fits_14 : decode cX4_fits 14 = .ok (.bipush (-4), 2) := by decide +kernel
theorem dX4_fits_16 : decode cX4_fits 16 = .ok (.istore_n 3, 1) := by decide +kernel
theorem dX4_fits_17 : decode cX4_fits 17 = .ok (.iconst 0, 1) := by decide +kernel
theorem dX4_fits_18 : decode cX4_fits 18 = .ok (.istore 4, 2) := by decide +kernel
theorem dX4_fits_20 : decode cX4_fits 20 = .ok (.iload 4, 2) := by decide +kernel
theorem dX4_fits_22 : decode cX4_fits 22 = .ok (.aload_n 0, 1) := by decide +kernel
theorem dX4_fits_23 : decode cX4_fits 23 = .ok (.invokevirtual 278, 3) := by decide +kernel
theorem dX4_fits_26 : decode cX4_fits 26 = .ok (.if_icmp .ge 32, 3) := by decide +kernel
theorem dX4_fits_29 : decode cX4_fits 29 = .ok (.aload_n 0, 1) := by decide +kernel
theorem dX4_fits_30 : decode cX4_fits 30 = .ok (.iload 4, 2) := by decide +kernel
theorem dX4_fits_32 : decode cX4_fits 32 = .ok (.invokevirtual 281, 3) := by decide +kernel
theorem dX4_fits_35 : decode cX4_fits 35 = .ok (.ifCond .eq 17, 3) := by decide +kernel
theorem dX4_fits_38 : decode cX4_fits 38 = .ok (.iload_n 2, 1) := by decide +kernel
theorem dX4_fits_39 : decode cX4_fits 39 = .ok (.ifCond .ne 8, 3) := by decide +kernel
theorem dX4_fits_42 : decode cX4_fits 42 = .ok (.iload 4, 2) := by decide +kernel
theorem dX4_fits_44 : decode cX4_fits 44 = .ok (.goto 4, 3) := by decide +kernel
theorem dX4_fits_47 : decode cX4_fits 47 = .ok (.iload_n 3, 1) := by decide +kernel
theorem dX4_fits_48 : decode cX4_fits 48 = .ok (.istore_n 3, 1) := by decide +kernel
theorem dX4_fits_49 : decode cX4_fits 49 = .ok (.iinc 2 1, 3) := by decide +kernel
theorem dX4_fits_52 : decode cX4_fits 52 = .ok (.iinc 4 1, 3) := by decide +kernel
theorem dX4_fits_55 : decode cX4_fits 55 = .ok (.goto (-35), 3) := by decide +kernel
theorem dX4_fits_58 : decode cX4_fits 58 = .ok (.iload_n 1, 1) := by decide +kernel
theorem dX4_fits_59 : decode cX4_fits 59 = .ok (.ifCond .ne 7, 3) := by decide +kernel
theorem dX4_fits_62 : decode cX4_fits 62 = .ok (.iload_n 2, 1) := by decide +kernel
theorem dX4_fits_63 : decode cX4_fits 63 = .ok (.goto 4, 3) := by decide +kernel
theorem dX4_fits_66 : decode cX4_fits 66 = .ok (.iload_n 3, 1) := by decide +kernel
theorem dX4_fits_67 : decode cX4_fits 67 = .ok (.ireturn, 1) := by decide +kernel
theorem dX4_kinds_0 : decode cX4_kinds 0 = .ok (.aload_n 0, 1) := by decide +kernel
theorem dX4_kinds_1 : decode cX4_kinds 1 = .ok (.iload_n 1, 1) := by decide +kernel
theorem dX4_kinds_2 : decode cX4_kinds 2 = .ok (.invokevirtual 177, 3) := by decide +kernel
theorem dX4_kinds_5 : decode cX4_kinds 5 = .ok (.ifCond .ne 5, 3) := by decide +kernel
theorem dX4_kinds_8 : decode cX4_kinds 8 = .ok (.iconst (-1), 1) := by decide +kernel
theorem dX4_kinds_9 : decode cX4_kinds 9 = .ok (.ireturn, 1) := by decide +kernel
theorem dX4_kinds_10 : decode cX4_kinds 10 = .ok (.iconst 0, 1) := by decide +kernel
theorem dX4_kinds_11 : decode cX4_kinds 11 = .ok (.istore_n 2, 1) := by decide +kernel
theorem dX4_kinds_12 : decode cX4_kinds 12 = .ok (.iconst 0, 1) := by decide +kernel
theorem dX4_kinds_13 : decode cX4_kinds 13 = .ok (.istore_n 3, 1) := by decide +kernel
theorem dX4_kinds_14 : decode cX4_kinds 14 = .ok (.iload_n 3, 1) := by decide +kernel
theorem dX4_kinds_15 : decode cX4_kinds 15 = .ok (.aload_n 0, 1) := by decide +kernel
theorem dX4_kinds_16 : decode cX4_kinds 16 = .ok (.invokevirtual 278, 3) := by decide +kernel
theorem dX4_kinds_19 : decode cX4_kinds 19 = .ok (.if_icmp .ge 32, 3) := by decide +kernel
theorem dX4_kinds_22 : decode cX4_kinds 22 = .ok (.iload_n 2, 1) := by decide +kernel
theorem dX4_kinds_23 : decode cX4_kinds 23 = .ok (.aload_n 0, 1) := by decide +kernel
theorem dX4_kinds_24 : decode cX4_kinds 24 = .ok (.iload_n 3, 1) := by decide +kernel
theorem dX4_kinds_25 : decode cX4_kinds 25 = .ok (.invokevirtual 281, 3) := by decide +kernel
theorem dX4_kinds_28 : decode cX4_kinds 28 = .ok (.ifCond .eq 14, 3) := by decide +kernel
theorem dX4_kinds_31 : decode cX4_kinds 31 = .ok (.iconst 1, 1) := by decide +kernel
theorem dX4_kinds_32 : decode cX4_kinds 32 = .ok (.aload_n 0, 1) := by decide +kernel
theorem dX4_kinds_33 : decode cX4_kinds 33 = .ok (.iload_n 3, 1) := by decide +kernel
theorem dX4_kinds_34 : decode cX4_kinds 34 = .ok (.iload_n 1, 1) := by decide +kernel
theorem dX4_kinds_35 : decode cX4_kinds 35 = .ok (.invokevirtual 275, 3) := by decide +kernel
theorem dX4_kinds_38 : decode cX4_kinds 38 = .ok (.ishl, 1) := by decide +kernel
theorem dX4_kinds_39 : decode cX4_kinds 39 = .ok (.goto 4, 3) := by decide +kernel
theorem dX4_kinds_42 : decode cX4_kinds 42 = .ok (.iconst 0, 1) := by decide +kernel
theorem dX4_kinds_43 : decode cX4_kinds 43 = .ok (.ior, 1) := by decide +kernel
theorem dX4_kinds_44 : decode cX4_kinds 44 = .ok (.istore_n 2, 1) := by decide +kernel
theorem dX4_kinds_45 : decode cX4_kinds 45 = .ok (.iinc 3 1, 3) := by decide +kernel
theorem dX4_kinds_48 : decode cX4_kinds 48 = .ok (.goto (-34), 3) := by decide +kernel
theorem dX4_kinds_51 : decode cX4_kinds 51 = .ok (.iload_n 2, 1) := by decide +kernel
theorem dX4_kinds_52 : decode cX4_kinds 52 = .ok (.ireturn, 1) := by decide +kernel
theorem dX4_drift_0 : decode cX4_drift 0 = .ok (.iload_n 2, 1) := by decide +kernel
theorem dX4_drift_1 : decode cX4_drift 1 = .ok (.i2l, 1) := by decide +kernel
theorem dX4_drift_2 : decode cX4_drift 2 = .ok (.lconst 1, 1) := by decide +kernel
theorem dX4_drift_3 : decode cX4_drift 3 = .ok (.ldc2_w 209, 3) := by decide +kernel
theorem dX4_drift_6 : decode cX4_drift 6 = .ok (.invokestatic 59, 3) := by decide +kernel
theorem dX4_drift_9 : decode cX4_drift 9 = .ok (.ifCond .eq 15, 3) := by decide +kernel
theorem dX4_drift_12 : decode cX4_drift 12 = .ok (.iload_n 3, 1) := by decide +kernel
theorem dX4_drift_13 : decode cX4_drift 13 = .ok (.i2l, 1) := by decide +kernel
theorem dX4_drift_14 : decode cX4_drift 14 = .ok (.lconst 0, 1) := by decide +kernel
theorem dX4_drift_15 : decode cX4_drift 15 = .ok (.ldc2_w 123, 3) := by decide +kernel
theorem dX4_drift_18 : decode cX4_drift 18 = .ok (.invokestatic 59, 3) := by decide +kernel
theorem dX4_drift_21 : decode cX4_drift 21 = .ok (.ifCond .ne 5, 3) := by decide +kernel
theorem dX4_drift_24 : decode cX4_drift 24 = .ok (.iconst (-1), 1) := by decide +kernel
theorem dX4_drift_25 : decode cX4_drift 25 = .ok (.ireturn, 1) := by decide +kernel
theorem dX4_drift_26 : decode cX4_drift 26 = .ok (.aload_n 0, 1) := by decide +kernel
theorem dX4_drift_27 : decode cX4_drift 27 = .ok (.iconst 0, 1) := by decide +kernel
theorem dX4_drift_28 : decode cX4_drift 28 = .ok (.bipush 80, 2) := by decide +kernel
theorem dX4_drift_30 : decode cX4_drift 30 = .ok (.invokevirtual 250, 3) := by decide +kernel
theorem dX4_drift_33 : decode cX4_drift 33 = .ok (.iload_n 1, 1) := by decide +kernel
theorem dX4_drift_34 : decode cX4_drift 34 = .ok (.istore 4, 2) := by decide +kernel
theorem dX4_drift_36 : decode cX4_drift 36 = .ok (.iconst 0, 1) := by decide +kernel
theorem dX4_drift_37 : decode cX4_drift 37 = .ok (.istore 5, 2) := by decide +kernel
theorem dX4_drift_39 : decode cX4_drift 39 = .ok (.iload 5, 2) := by decide +kernel
theorem dX4_drift_41 : decode cX4_drift 41 = .ok (.iload_n 2, 1) := by decide +kernel
theorem dX4_drift_42 : decode cX4_drift 42 = .ok (.if_icmp .ge 46, 3) := by decide +kernel
theorem dX4_drift_45 : decode cX4_drift 45 = .ok (.iload 4, 2) := by decide +kernel
theorem dX4_drift_47 : decode cX4_drift 47 = .ok (.ldc_w 284, 3) := by decide +kernel
theorem dX4_drift_50 : decode cX4_drift 50 = .ok (.imul, 1) := by decide +kernel
theorem dX4_drift_51 : decode cX4_drift 51 = .ok (.sipush 12345, 3) := by decide +kernel
theorem dX4_drift_54 : decode cX4_drift 54 = .ok (.iadd, 1) := by decide +kernel
theorem dX4_drift_55 : decode cX4_drift 55 = .ok (.istore 4, 2) := by decide +kernel
theorem dX4_drift_57 : decode cX4_drift 57 = .ok (.aload_n 0, 1) := by decide +kernel
theorem dX4_drift_58 : decode cX4_drift 58 = .ok (.bipush 80, 2) := by decide +kernel
theorem dX4_drift_60 : decode cX4_drift 60 = .ok (.iload 4, 2) := by decide +kernel
theorem dX4_drift_62 : decode cX4_drift 62 = .ok (.bipush 16, 2) := by decide +kernel
theorem dX4_drift_64 : decode cX4_drift 64 = .ok (.ishr, 1) := by decide +kernel
theorem dX4_drift_65 : decode cX4_drift 65 = .ok (.sipush 32767, 3) := by decide +kernel
theorem dX4_drift_68 : decode cX4_drift 68 = .ok (.iand, 1) := by decide +kernel
theorem dX4_drift_69 : decode cX4_drift 69 = .ok (.iconst 3, 1) := by decide +kernel
theorem dX4_drift_70 : decode cX4_drift 70 = .ok (.irem, 1) := by decide +kernel
theorem dX4_drift_71 : decode cX4_drift 71 = .ok (.ifCond .eq 7, 3) := by decide +kernel
theorem dX4_drift_74 : decode cX4_drift 74 = .ok (.iconst 1, 1) := by decide +kernel
theorem dX4_drift_75 : decode cX4_drift 75 = .ok (.goto 4, 3) := by decide +kernel
theorem dX4_drift_78 : decode cX4_drift 78 = .ok (.iconst 0, 1) := by decide +kernel
theorem dX4_drift_79 : decode cX4_drift 79 = .ok (.invokevirtual 240, 3) := by decide +kernel
theorem dX4_drift_82 : decode cX4_drift 82 = .ok (.iinc 5 1, 3) := by decide +kernel
theorem dX4_drift_85 : decode cX4_drift 85 = .ok (.goto (-46), 3) := by decide +kernel
theorem dX4_drift_88 : decode cX4_drift 88 = .ok (.iload_n 3, 1) := by decide +kernel
theorem dX4_drift_89 : decode cX4_drift 89 = .ok (.ifCond .ne 13, 3) := by decide +kernel
theorem dX4_drift_92 : decode cX4_drift 92 = .ok (.aload_n 0, 1) := by decide +kernel
theorem dX4_drift_93 : decode cX4_drift 93 = .ok (.getfield 7, 3) := by decide +kernel
theorem dX4_drift_96 : decode cX4_drift 96 = .ok (.bipush 89, 2) := by decide +kernel
theorem dX4_drift_98 : decode cX4_drift 98 = .ok (.iaload, 1) := by decide +kernel
theorem dX4_drift_99 : decode cX4_drift 99 = .ok (.goto 24, 3) := by decide +kernel
theorem dX4_drift_102 : decode cX4_drift 102 = .ok (.iload_n 3, 1) := by decide +kernel
theorem dX4_drift_103 : decode cX4_drift 103 = .ok (.iconst 1, 1) := by decide +kernel
theorem dX4_drift_104 : decode cX4_drift 104 = .ok (.if_icmp .ne 13, 3) := by decide +kernel
theorem dX4_drift_107 : decode cX4_drift 107 = .ok (.aload_n 0, 1) := by decide +kernel
theorem dX4_drift_108 : decode cX4_drift 108 = .ok (.getfield 7, 3) := by decide +kernel
theorem dX4_drift_111 : decode cX4_drift 111 = .ok (.bipush 88, 2) := by decide +kernel
theorem dX4_drift_113 : decode cX4_drift 113 = .ok (.iaload, 1) := by decide +kernel
theorem dX4_drift_114 : decode cX4_drift 114 = .ok (.goto 9, 3) := by decide +kernel
theorem dX4_drift_117 : decode cX4_drift 117 = .ok (.aload_n 0, 1) := by decide +kernel
theorem dX4_drift_118 : decode cX4_drift 118 = .ok (.bipush 80, 2) := by decide +kernel
theorem dX4_drift_120 : decode cX4_drift 120 = .ok (.invokevirtual 218, 3) := by decide +kernel
theorem dX4_drift_123 : decode cX4_drift 123 = .ok (.ireturn, 1) := by decide +kernel
theorem dX4_keep_0 : decode cX4_keep 0 = .ok (.iload_n 1, 1) := by decide +kernel
theorem dX4_keep_1 : decode cX4_keep 1 = .ok (.i2l, 1) := by decide +kernel
theorem dX4_keep_2 : decode cX4_keep 2 = .ok (.lconst 0, 1) := by decide +kernel
theorem dX4_keep_3 : decode cX4_keep 3 = .ok (.lconst 1, 1) := by decide +kernel
theorem dX4_keep_4 : decode cX4_keep 4 = .ok (.invokestatic 59, 3) := by decide +kernel
theorem dX4_keep_7 : decode cX4_keep 7 = .ok (.ifCond .ne 5, 3) := by decide +kernel
theorem dX4_keep_10 : decode cX4_keep 10 = .ok (.iconst (-1), 1) := by decide +kernel
theorem dX4_keep_11 : decode cX4_keep 11 = .ok (.ireturn, 1) := by decide +kernel
theorem dX4_keep_12 : decode cX4_keep 12 = .ok (.aload_n 0, 1) := by decide +kernel
theorem dX4_keep_13 : decode cX4_keep 13 = .ok (.iconst 0, 1) := by decide +kernel
theorem dX4_keep_14 : decode cX4_keep 14 = .ok (.bipush 20, 2) := by decide +kernel
theorem dX4_keep_16 : decode cX4_keep 16 = .ok (.iload_n 1, 1) := by decide +kernel
theorem dX4_keep_17 : decode cX4_keep 17 = .ok (.iconst 1, 1) := by decide +kernel
theorem dX4_keep_18 : decode cX4_keep 18 = .ok (.iadd, 1) := by decide +kernel
theorem dX4_keep_19 : decode cX4_keep 19 = .ok (.imul, 1) := by decide +kernel
theorem dX4_keep_20 : decode cX4_keep 20 = .ok (.invokevirtual 250, 3) := by decide +kernel
theorem dX4_keep_23 : decode cX4_keep 23 = .ok (.aload_n 0, 1) := by decide +kernel
theorem dX4_keep_24 : decode cX4_keep 24 = .ok (.getfield 44, 3) := by decide +kernel
theorem dX4_keep_27 : decode cX4_keep 27 = .ok (.iload_n 1, 1) := by decide +kernel
theorem dX4_keep_28 : decode cX4_keep 28 = .ok (.baload, 1) := by decide +kernel
theorem dX4_keep_29 : decode cX4_keep 29 = .ok (.ifCond .eq 7, 3) := by decide +kernel
theorem dX4_keep_32 : decode cX4_keep 32 = .ok (.iconst 1, 1) := by decide +kernel
theorem dX4_keep_33 : decode cX4_keep 33 = .ok (.goto 4, 3) := by decide +kernel
theorem dX4_keep_36 : decode cX4_keep 36 = .ok (.iconst 0, 1) := by decide +kernel
theorem dX4_keep_37 : decode cX4_keep 37 = .ok (.istore_n 2, 1) := by decide +kernel
theorem dX4_keep_38 : decode cX4_keep 38 = .ok (.aload_n 0, 1) := by decide +kernel
theorem dX4_keep_39 : decode cX4_keep 39 = .ok (.getfield 44, 3) := by decide +kernel
theorem dX4_keep_42 : decode cX4_keep 42 = .ok (.iload_n 1, 1) := by decide +kernel
theorem dX4_keep_43 : decode cX4_keep 43 = .ok (.iconst 1, 1) := by decide +kernel
theorem dX4_keep_44 : decode cX4_keep 44 = .ok (.bastore, 1) := by decide +kernel
theorem dX4_keep_45 : decode cX4_keep 45 = .ok (.iload_n 2, 1) := by decide +kernel
theorem dX4_keep_46 : decode cX4_keep 46 = .ok (.ireturn, 1) := by decide +kernel
theorem dX4_back_0 : decode cX4_back 0 = .ok (.iload_n 1, 1) := by decide +kernel
theorem dX4_back_1 : decode cX4_back 1 = .ok (.i2l, 1) := by decide +kernel
theorem dX4_back_2 : decode cX4_back 2 = .ok (.lconst 0, 1) := by decide +kernel
theorem dX4_back_3 : decode cX4_back 3 = .ok (.lconst 1, 1) := by decide +kernel
theorem dX4_back_4 : decode cX4_back 4 = .ok (.invokestatic 59, 3) := by decide +kernel
theorem dX4_back_7 : decode cX4_back 7 = .ok (.ifCond .ne 5, 3) := by decide +kernel
theorem dX4_back_10 : decode cX4_back 10 = .ok (.iconst (-1), 1) := by decide +kernel
theorem dX4_back_11 : decode cX4_back 11 = .ok (.ireturn, 1) := by decide +kernel
theorem dX4_back_12 : decode cX4_back 12 = .ok (.aload_n 0, 1) := by decide +kernel
theorem dX4_back_13 : decode cX4_back 13 = .ok (.getfield 44, 3) := by decide +kernel
theorem dX4_back_16 : decode cX4_back 16 = .ok (.iload_n 1, 1) := by decide +kernel
theorem dX4_back_17 : decode cX4_back 17 = .ok (.baload, 1) := by decide +kernel
theorem dX4_back_18 : decode cX4_back 18 = .ok (.ifCond .ne 6, 3) := by decide +kernel
theorem dX4_back_21 : decode cX4_back 21 = .ok (.bipush (-2), 2) := by decide +kernel
theorem dX4_back_23 : decode cX4_back 23 = .ok (.ireturn, 1) := by decide +kernel
theorem dX4_back_24 : decode cX4_back 24 = .ok (.aload_n 0, 1) := by decide +kernel
theorem dX4_back_25 : decode cX4_back 25 = .ok (.bipush 20, 2) := by decide +kernel
theorem dX4_back_27 : decode cX4_back 27 = .ok (.iload_n 1, 1) := by decide +kernel
theorem dX4_back_28 : decode cX4_back 28 = .ok (.iconst 1, 1) := by decide +kernel
theorem dX4_back_29 : decode cX4_back 29 = .ok (.iadd, 1) := by decide +kernel
theorem dX4_back_30 : decode cX4_back 30 = .ok (.imul, 1) := by decide +kernel
theorem dX4_back_31 : decode cX4_back 31 = .ok (.iconst 0, 1) := by decide +kernel
theorem dX4_back_32 : decode cX4_back 32 = .ok (.invokevirtual 250, 3) := by decide +kernel
theorem dX4_back_35 : decode cX4_back 35 = .ok (.aload_n 0, 1) := by decide +kernel
theorem dX4_back_36 : decode cX4_back 36 = .ok (.iconst 0, 1) := by decide +kernel
theorem dX4_back_37 : decode cX4_back 37 = .ok (.invokevirtual 171, 3) := by decide +kernel
theorem dX4_back_40 : decode cX4_back 40 = .ok (.ireturn, 1) := by decide +kernel
theorem dX4_sheet_0 : decode cX4_sheet 0 = .ok (.iload_n 1, 1) := by decide +kernel
theorem dX4_sheet_1 : decode cX4_sheet 1 = .ok (.i2l, 1) := by decide +kernel
theorem dX4_sheet_2 : decode cX4_sheet 2 = .ok (.lconst 0, 1) := by decide +kernel
theorem dX4_sheet_3 : decode cX4_sheet 3 = .ok (.ldc2_w 165, 3) := by decide +kernel
theorem dX4_sheet_6 : decode cX4_sheet 6 = .ok (.invokestatic 59, 3) := by decide +kernel
theorem dX4_sheet_9 : decode cX4_sheet 9 = .ok (.ifCond .eq 21, 3) := by decide +kernel
theorem dX4_sheet_12 : decode cX4_sheet 12 = .ok (.iload_n 2, 1) := by decide +kernel
theorem dX4_sheet_13 : decode cX4_sheet 13 = .ok (.i2l, 1) := by decide +kernel
theorem dX4_sheet_14 : decode cX4_sheet 14 = .ok (.lconst 0, 1) := by decide +kernel
theorem dX4_sheet_15 : decode cX4_sheet 15 = .ok (.ldc2_w 123, 3) := by decide +kernel
theorem dX4_sheet_18 : decode cX4_sheet 18 = .ok (.invokestatic 59, 3) := by decide +kernel
theorem dX4_sheet_21 : decode cX4_sheet 21 = .ok (.ifCond .eq 9, 3) := by decide +kernel
theorem dX4_sheet_24 : decode cX4_sheet 24 = .ok (.iload_n 3, 1) := by decide +kernel
theorem dX4_sheet_25 : decode cX4_sheet 25 = .ok (.bipush 40, 2) := by decide +kernel
theorem dX4_sheet_27 : decode cX4_sheet 27 = .ok (.if_icmp .le 5, 3) := by decide +kernel
theorem dX4_sheet_30 : decode cX4_sheet 30 = .ok (.iconst (-1), 1) := by decide +kernel
theorem dX4_sheet_31 : decode cX4_sheet 31 = .ok (.ireturn, 1) := by decide +kernel
theorem dX4_sheet_32 : decode cX4_sheet 32 = .ok (.iload_n 3, 1) := by decide +kernel
theorem dX4_sheet_33 : decode cX4_sheet 33 = .ok (.ifCond .ge 6, 3) := by decide +kernel
theorem dX4_sheet_36 : decode cX4_sheet 36 = .ok (.bipush (-14), 2) := by decide +kernel
theorem dX4_sheet_38 : decode cX4_sheet 38 = .ok (.ireturn, 1) := by decide +kernel
theorem dX4_sheet_39 : decode cX4_sheet 39 = .ok (.aload_n 0, 1) := by decide +kernel
theorem dX4_sheet_40 : decode cX4_sheet 40 = .ok (.getfield 48, 3) := by decide +kernel
theorem dX4_sheet_43 : decode cX4_sheet 43 = .ok (.iload_n 1, 1) := by decide +kernel
theorem dX4_sheet_44 : decode cX4_sheet 44 = .ok (.iload_n 2, 1) := by decide +kernel
theorem dX4_sheet_45 : decode cX4_sheet 45 = .ok (.iastore, 1) := by decide +kernel
theorem dX4_sheet_46 : decode cX4_sheet 46 = .ok (.aload_n 0, 1) := by decide +kernel
theorem dX4_sheet_47 : decode cX4_sheet 47 = .ok (.getfield 51, 3) := by decide +kernel
theorem dX4_sheet_50 : decode cX4_sheet 50 = .ok (.iload_n 1, 1) := by decide +kernel
theorem dX4_sheet_51 : decode cX4_sheet 51 = .ok (.iload_n 3, 1) := by decide +kernel
theorem dX4_sheet_52 : decode cX4_sheet 52 = .ok (.iastore, 1) := by decide +kernel
theorem dX4_sheet_53 : decode cX4_sheet 53 = .ok (.iconst 0, 1) := by decide +kernel
theorem dX4_sheet_54 : decode cX4_sheet 54 = .ok (.istore 4, 2) := by decide +kernel
theorem dX4_sheet_56 : decode cX4_sheet 56 = .ok (.iload 4, 2) := by decide +kernel
theorem dX4_sheet_58 : decode cX4_sheet 58 = .ok (.bipush 40, 2) := by decide +kernel
theorem dX4_sheet_60 : decode cX4_sheet 60 = .ok (.if_icmp .ge 22, 3) := by decide +kernel
theorem dX4_sheet_63 : decode cX4_sheet 63 = .ok (.aload_n 0, 1) := by decide +kernel
theorem dX4_sheet_64 : decode cX4_sheet 64 = .ok (.getfield 54, 3) := by decide +kernel
theorem dX4_sheet_67 : decode cX4_sheet 67 = .ok (.bipush 40, 2) := by decide +kernel
theorem dX4_sheet_69 : decode cX4_sheet 69 = .ok (.iload_n 1, 1) := by decide +kernel
theorem dX4_sheet_70 : decode cX4_sheet 70 = .ok (.imul, 1) := by decide +kernel
theorem dX4_sheet_71 : decode cX4_sheet 71 = .ok (.iload 4, 2) := by decide +kernel
theorem dX4_sheet_73 : decode cX4_sheet 73 = .ok (.iadd, 1) := by decide +kernel
theorem dX4_sheet_74 : decode cX4_sheet 74 = .ok (.iconst 0, 1) := by decide +kernel
theorem dX4_sheet_75 : decode cX4_sheet 75 = .ok (.iastore, 1) := by decide +kernel
theorem dX4_sheet_76 : decode cX4_sheet 76 = .ok (.iinc 4 1, 3) := by decide +kernel
theorem dX4_sheet_79 : decode cX4_sheet 79 = .ok (.goto (-23), 3) := by decide +kernel
theorem dX4_sheet_82 : decode cX4_sheet 82 = .ok (.iconst 1, 1) := by decide +kernel
theorem dX4_sheet_83 : decode cX4_sheet 83 = .ok (.ireturn, 1) := by decide +kernel
theorem dX4_put_0 : decode cX4_put 0 = .ok (.iload_n 1, 1) := by decide +kernel
theorem dX4_put_1 : decode cX4_put 1 = .ok (.i2l, 1) := by decide +kernel
theorem dX4_put_2 : decode cX4_put 2 = .ok (.lconst 0, 1) := by decide +kernel
theorem dX4_put_3 : decode cX4_put 3 = .ok (.ldc2_w 165, 3) := by decide +kernel
theorem dX4_put_6 : decode cX4_put 6 = .ok (.invokestatic 59, 3) := by decide +kernel
theorem dX4_put_9 : decode cX4_put 9 = .ok (.ifCond .ne 5, 3) := by decide +kernel
theorem dX4_put_12 : decode cX4_put 12 = .ok (.iconst (-1), 1) := by decide +kernel
theorem dX4_put_13 : decode cX4_put 13 = .ok (.ireturn, 1) := by decide +kernel
theorem dX4_put_14 : decode cX4_put 14 = .ok (.aload_n 0, 1) := by decide +kernel
theorem dX4_put_15 : decode cX4_put 15 = .ok (.getfield 48, 3) := by decide +kernel
theorem dX4_put_18 : decode cX4_put 18 = .ok (.iload_n 1, 1) := by decide +kernel
theorem dX4_put_19 : decode cX4_put 19 = .ok (.iaload, 1) := by decide +kernel
theorem dX4_put_20 : decode cX4_put 20 = .ok (.bipush (-4), 2) := by decide +kernel
theorem dX4_put_22 : decode cX4_put 22 = .ok (.if_icmp .ne 6, 3) := by decide +kernel
theorem dX4_put_25 : decode cX4_put 25 = .ok (.bipush (-11), 2) := by decide +kernel
theorem dX4_put_27 : decode cX4_put 27 = .ok (.ireturn, 1) := by decide +kernel
theorem dX4_put_28 : decode cX4_put 28 = .ok (.iload_n 2, 1) := by decide +kernel
theorem dX4_put_29 : decode cX4_put 29 = .ok (.i2l, 1) := by decide +kernel
theorem dX4_put_30 : decode cX4_put 30 = .ok (.lconst 0, 1) := by decide +kernel
theorem dX4_put_31 : decode cX4_put 31 = .ok (.aload_n 0, 1) := by decide +kernel
theorem dX4_put_32 : decode cX4_put 32 = .ok (.getfield 51, 3) := by decide +kernel
theorem dX4_put_35 : decode cX4_put 35 = .ok (.iload_n 1, 1) := by decide +kernel
theorem dX4_put_36 : decode cX4_put 36 = .ok (.iaload, 1) := by decide +kernel
theorem dX4_put_37 : decode cX4_put 37 = .ok (.iconst 1, 1) := by decide +kernel
theorem dX4_put_38 : decode cX4_put 38 = .ok (.isub, 1) := by decide +kernel
theorem dX4_put_39 : decode cX4_put 39 = .ok (.i2l, 1) := by decide +kernel
theorem dX4_put_40 : decode cX4_put 40 = .ok (.invokestatic 59, 3) := by decide +kernel
theorem dX4_put_43 : decode cX4_put 43 = .ok (.ifCond .ne 6, 3) := by decide +kernel
theorem dX4_put_46 : decode cX4_put 46 = .ok (.bipush (-12), 2) := by decide +kernel
theorem dX4_put_48 : decode cX4_put 48 = .ok (.ireturn, 1) := by decide +kernel
theorem dX4_put_49 : decode cX4_put 49 = .ok (.aload_n 0, 1) := by decide +kernel
theorem dX4_put_50 : decode cX4_put 50 = .ok (.getfield 54, 3) := by decide +kernel
theorem dX4_put_53 : decode cX4_put 53 = .ok (.bipush 40, 2) := by decide +kernel
theorem dX4_put_55 : decode cX4_put 55 = .ok (.iload_n 1, 1) := by decide +kernel
theorem dX4_put_56 : decode cX4_put 56 = .ok (.imul, 1) := by decide +kernel
theorem dX4_put_57 : decode cX4_put 57 = .ok (.iload_n 2, 1) := by decide +kernel
theorem dX4_put_58 : decode cX4_put 58 = .ok (.iadd, 1) := by decide +kernel
theorem dX4_put_59 : decode cX4_put 59 = .ok (.aload_n 0, 1) := by decide +kernel
theorem dX4_put_60 : decode cX4_put 60 = .ok (.getfield 48, 3) := by decide +kernel
theorem dX4_put_63 : decode cX4_put 63 = .ok (.iload_n 1, 1) := by decide +kernel
theorem dX4_put_64 : decode cX4_put 64 = .ok (.iaload, 1) := by decide +kernel
theorem dX4_put_65 : decode cX4_put 65 = .ok (.ifCond .ne 13, 3) := by decide +kernel
theorem dX4_put_68 : decode cX4_put 68 = .ok (.iload_n 3, 1) := by decide +kernel
theorem dX4_put_69 : decode cX4_put 69 = .ok (.bipush 24, 2) := by decide +kernel
theorem dX4_put_71 : decode cX4_put 71 = .ok (.ishl, 1) := by decide +kernel
theorem dX4_put_72 : decode cX4_put 72 = .ok (.bipush 24, 2) := by decide +kernel
theorem dX4_put_74 : decode cX4_put 74 = .ok (.ishr, 1) := by decide +kernel
theorem dX4_put_75 : decode cX4_put 75 = .ok (.goto 24, 3) := by decide +kernel
theorem dX4_put_78 : decode cX4_put 78 = .ok (.aload_n 0, 1) := by decide +kernel
theorem dX4_put_79 : decode cX4_put 79 = .ok (.getfield 48, 3) := by decide +kernel
theorem dX4_put_82 : decode cX4_put 82 = .ok (.iload_n 1, 1) := by decide +kernel
theorem dX4_put_83 : decode cX4_put 83 = .ok (.iaload, 1) := by decide +kernel
theorem dX4_put_84 : decode cX4_put 84 = .ok (.iconst 1, 1) := by decide +kernel
theorem dX4_put_85 : decode cX4_put 85 = .ok (.if_icmp .ne 13, 3) := by decide +kernel
theorem dX4_put_88 : decode cX4_put 88 = .ok (.iload_n 3, 1) := by decide +kernel
theorem dX4_put_89 : decode cX4_put 89 = .ok (.bipush 16, 2) := by decide +kernel
theorem dX4_put_91 : decode cX4_put 91 = .ok (.ishl, 1) := by decide +kernel
theorem dX4_put_92 : decode cX4_put 92 = .ok (.bipush 16, 2) := by decide +kernel
theorem dX4_put_94 : decode cX4_put 94 = .ok (.ishr, 1) := by decide +kernel
theorem dX4_put_95 : decode cX4_put 95 = .ok (.goto 4, 3) := by decide +kernel
theorem dX4_put_98 : decode cX4_put 98 = .ok (.iload_n 3, 1) := by decide +kernel
theorem dX4_put_99 : decode cX4_put 99 = .ok (.iastore, 1) := by decide +kernel
theorem dX4_put_100 : decode cX4_put 100 = .ok (.iconst 1, 1) := by decide +kernel
theorem dX4_put_101 : decode cX4_put 101 = .ok (.ireturn, 1) := by decide +kernel
theorem dX4_read_0 : decode cX4_read 0 = .ok (.iload_n 1, 1) := by decide +kernel
theorem dX4_read_1 : decode cX4_read 1 = .ok (.i2l, 1) := by decide +kernel
theorem dX4_read_2 : decode cX4_read 2 = .ok (.lconst 0, 1) := by decide +kernel
theorem dX4_read_3 : decode cX4_read 3 = .ok (.ldc2_w 165, 3) := by decide +kernel
theorem dX4_read_6 : decode cX4_read 6 = .ok (.invokestatic 59, 3) := by decide +kernel
theorem dX4_read_9 : decode cX4_read 9 = .ok (.ifCond .eq 28, 3) := by decide +kernel
theorem dX4_read_12 : decode cX4_read 12 = .ok (.iload_n 2, 1) := by decide +kernel
theorem dX4_read_13 : decode cX4_read 13 = .ok (.i2l, 1) := by decide +kernel
theorem dX4_read_14 : decode cX4_read 14 = .ok (.lconst 0, 1) := by decide +kernel
theorem dX4_read_15 : decode cX4_read 15 = .ok (.ldc2_w 123, 3) := by decide +kernel
theorem dX4_read_18 : decode cX4_read 18 = .ok (.invokestatic 59, 3) := by decide +kernel
theorem dX4_read_21 : decode cX4_read 21 = .ok (.ifCond .eq 16, 3) := by decide +kernel
theorem dX4_read_24 : decode cX4_read 24 = .ok (.iload 4, 2) := by decide +kernel
theorem dX4_read_26 : decode cX4_read 26 = .ok (.i2l, 1) := by decide +kernel
theorem dX4_read_27 : decode cX4_read 27 = .ok (.lconst 0, 1) := by decide +kernel
theorem dX4_read_28 : decode cX4_read 28 = .ok (.ldc2_w 204, 3) := by decide +kernel
theorem dX4_read_31 : decode cX4_read 31 = .ok (.invokestatic 59, 3) := by decide +kernel
theorem dX4_read_34 : decode cX4_read 34 = .ok (.ifCond .ne 5, 3) := by decide +kernel
theorem dX4_read_37 : decode cX4_read 37 = .ok (.iconst (-1), 1) := by decide +kernel
theorem dX4_read_38 : decode cX4_read 38 = .ok (.ireturn, 1) := by decide +kernel
theorem dX4_read_39 : decode cX4_read 39 = .ok (.aload_n 0, 1) := by decide +kernel
theorem dX4_read_40 : decode cX4_read 40 = .ok (.iconst 0, 1) := by decide +kernel
theorem dX4_read_41 : decode cX4_read 41 = .ok (.bipush 60, 2) := by decide +kernel
theorem dX4_read_43 : decode cX4_read 43 = .ok (.invokevirtual 250, 3) := by decide +kernel
theorem dX4_read_46 : decode cX4_read 46 = .ok (.iconst 0, 1) := by decide +kernel
theorem dX4_read_47 : decode cX4_read 47 = .ok (.istore 5, 2) := by decide +kernel
theorem dX4_read_49 : decode cX4_read 49 = .ok (.iconst 0, 1) := by decide +kernel
theorem dX4_read_50 : decode cX4_read 50 = .ok (.istore 6, 2) := by decide +kernel
theorem dX4_read_52 : decode cX4_read 52 = .ok (.iconst 0, 1) := by decide +kernel
theorem dX4_read_53 : decode cX4_read 53 = .ok (.istore 7, 2) := by decide +kernel
theorem dX4_read_55 : decode cX4_read 55 = .ok (.iload 7, 2) := by decide +kernel
theorem dX4_read_57 : decode cX4_read 57 = .ok (.iconst 2, 1) := by decide +kernel
theorem dX4_read_58 : decode cX4_read 58 = .ok (.iload 4, 2) := by decide +kernel
theorem dX4_read_60 : decode cX4_read 60 = .ok (.imul, 1) := by decide +kernel
theorem dX4_read_61 : decode cX4_read 61 = .ok (.if_icmp .ge 135, 3) := by decide +kernel
theorem dX4_read_64 : decode cX4_read 64 = .ok (.iload 5, 2) := by decide +kernel
theorem dX4_read_66 : decode cX4_read 66 = .ok (.ifCond .ne 130, 3) := by decide +kernel
theorem dX4_read_69 : decode cX4_read 69 = .ok (.aload_n 0, 1) := by decide +kernel
theorem dX4_read_70 : decode cX4_read 70 = .ok (.getfield 48, 3) := by decide +kernel
theorem dX4_read_73 : decode cX4_read 73 = .ok (.iload_n 1, 1) := by decide +kernel
theorem dX4_read_74 : decode cX4_read 74 = .ok (.iaload, 1) := by decide +kernel
theorem dX4_read_75 : decode cX4_read 75 = .ok (.bipush (-4), 2) := by decide +kernel
theorem dX4_read_77 : decode cX4_read 77 = .ok (.if_icmp .ne 7, 3) := by decide +kernel
theorem dX4_read_80 : decode cX4_read 80 = .ok (.iconst 1, 1) := by decide +kernel
theorem dX4_read_81 : decode cX4_read 81 = .ok (.goto 44, 3) := by decide +kernel
theorem dX4_read_84 : decode cX4_read 84 = .ok (.aload_n 0, 1) := by decide +kernel
theorem dX4_read_85 : decode cX4_read 85 = .ok (.getfield 48, 3) := by decide +kernel
theorem dX4_read_88 : decode cX4_read 88 = .ok (.iload_n 1, 1) := by decide +kernel
theorem dX4_read_89 : decode cX4_read 89 = .ok (.iaload, 1) := by decide +kernel
theorem dX4_read_90 : decode cX4_read 90 = .ok (.iload_n 2, 1) := by decide +kernel
theorem dX4_read_91 : decode cX4_read 91 = .ok (.if_icmp .eq 7, 3) := by decide +kernel
theorem dX4_read_94 : decode cX4_read 94 = .ok (.iconst 3, 1) := by decide +kernel
theorem dX4_read_95 : decode cX4_read 95 = .ok (.goto 30, 3) := by decide +kernel
theorem dX4_read_98 : decode cX4_read 98 = .ok (.iload_n 3, 1) := by decide +kernel
theorem dX4_read_99 : decode cX4_read 99 = .ok (.i2l, 1) := by decide +kernel
theorem dX4_read_100 : decode cX4_read 100 = .ok (.iload 7, 2) := by decide +kernel
theorem dX4_read_102 : decode cX4_read 102 = .ok (.i2l, 1) := by decide +kernel
theorem dX4_read_103 : decode cX4_read 103 = .ok (.ladd, 1) := by decide +kernel
theorem dX4_read_104 : decode cX4_read 104 = .ok (.lconst 0, 1) := by decide +kernel
theorem dX4_read_105 : decode cX4_read 105 = .ok (.aload_n 0, 1) := by decide +kernel
theorem dX4_read_106 : decode cX4_read 106 = .ok (.getfield 51, 3) := by decide +kernel
theorem dX4_read_109 : decode cX4_read 109 = .ok (.iload_n 1, 1) := by decide +kernel
theorem dX4_read_110 : decode cX4_read 110 = .ok (.iaload, 1) := by decide +kernel
theorem dX4_read_111 : decode cX4_read 111 = .ok (.iconst 1, 1) := by decide +kernel
theorem dX4_read_112 : decode cX4_read 112 = .ok (.isub, 1) := by decide +kernel
theorem dX4_read_113 : decode cX4_read 113 = .ok (.i2l, 1) := by decide +kernel
theorem dX4_read_114 : decode cX4_read 114 = .ok (.invokestatic 59, 3) := by decide +kernel
theorem dX4_read_117 : decode cX4_read 117 = .ok (.ifCond .ne 7, 3) := by decide +kernel
theorem dX4_read_120 : decode cX4_read 120 = .ok (.iconst 2, 1) := by decide +kernel
theorem dX4_read_121 : decode cX4_read 121 = .ok (.goto 4, 3) := by decide +kernel
theorem dX4_read_124 : decode cX4_read 124 = .ok (.iconst 0, 1) := by decide +kernel
theorem dX4_read_125 : decode cX4_read 125 = .ok (.istore 5, 2) := by decide +kernel
theorem dX4_read_127 : decode cX4_read 127 = .ok (.iload 5, 2) := by decide +kernel
theorem dX4_read_129 : decode cX4_read 129 = .ok (.ifCond .ne 61, 3) := by decide +kernel
theorem dX4_read_132 : decode cX4_read 132 = .ok (.iload 7, 2) := by decide +kernel
theorem dX4_read_134 : decode cX4_read 134 = .ok (.iconst 2, 1) := by decide +kernel
theorem dX4_read_135 : decode cX4_read 135 = .ok (.irem, 1) := by decide +kernel
theorem dX4_read_136 : decode cX4_read 136 = .ok (.iconst 1, 1) := by decide +kernel
theorem dX4_read_137 : decode cX4_read 137 = .ok (.if_icmp .ne 53, 3) := by decide +kernel
theorem dX4_read_140 : decode cX4_read 140 = .ok (.bipush 40, 2) := by decide +kernel
theorem dX4_read_142 : decode cX4_read 142 = .ok (.iload_n 1, 1) := by decide +kernel
theorem dX4_read_143 : decode cX4_read 143 = .ok (.imul, 1) := by decide +kernel
theorem dX4_read_144 : decode cX4_read 144 = .ok (.iload_n 3, 1) := by decide +kernel
theorem dX4_read_145 : decode cX4_read 145 = .ok (.iadd, 1) := by decide +kernel
theorem dX4_read_146 : decode cX4_read 146 = .ok (.iload 7, 2) := by decide +kernel
theorem dX4_read_148 : decode cX4_read 148 = .ok (.iadd, 1) := by decide +kernel
theorem dX4_read_149 : decode cX4_read 149 = .ok (.istore 8, 2) := by decide +kernel
theorem dX4_read_151 : decode cX4_read 151 = .ok (.aload_n 0, 1) := by decide +kernel
theorem dX4_read_152 : decode cX4_read 152 = .ok (.aload_n 0, 1) := by decide +kernel
theorem dX4_read_153 : decode cX4_read 153 = .ok (.getfield 54, 3) := by decide +kernel
theorem dX4_read_156 : decode cX4_read 156 = .ok (.iload 8, 2) := by decide +kernel
theorem dX4_read_158 : decode cX4_read 158 = .ok (.iconst 1, 1) := by decide +kernel
theorem dX4_read_159 : decode cX4_read 159 = .ok (.isub, 1) := by decide +kernel
theorem dX4_read_160 : decode cX4_read 160 = .ok (.iaload, 1) := by decide +kernel
theorem dX4_read_161 : decode cX4_read 161 = .ok (.aload_n 0, 1) := by decide +kernel
theorem dX4_read_162 : decode cX4_read 162 = .ok (.getfield 54, 3) := by decide +kernel
theorem dX4_read_165 : decode cX4_read 165 = .ok (.iload 8, 2) := by decide +kernel
theorem dX4_read_167 : decode cX4_read 167 = .ok (.iaload, 1) := by decide +kernel
theorem dX4_read_168 : decode cX4_read 168 = .ok (.invokevirtual 206, 3) := by decide +kernel
theorem dX4_read_171 : decode cX4_read 171 = .ok (.ifCond .ge 16, 3) := by decide +kernel
theorem dX4_read_174 : decode cX4_read 174 = .ok (.aload_n 0, 1) := by decide +kernel
theorem dX4_read_175 : decode cX4_read 175 = .ok (.bipush 60, 2) := by decide +kernel
theorem dX4_read_177 : decode cX4_read 177 = .ok (.iconst 0, 1) := by decide +kernel
theorem dX4_read_178 : decode cX4_read 178 = .ok (.invokevirtual 250, 3) := by decide +kernel
theorem dX4_read_181 : decode cX4_read 181 = .ok (.bipush (-20), 2) := by decide +kernel
theorem dX4_read_183 : decode cX4_read 183 = .ok (.iload 6, 2) := by decide +kernel
theorem dX4_read_185 : decode cX4_read 185 = .ok (.isub, 1) := by decide +kernel
theorem dX4_read_186 : decode cX4_read 186 = .ok (.ireturn, 1) := by decide +kernel
theorem dX4_read_187 : decode cX4_read 187 = .ok (.iinc 6 1, 3) := by decide +kernel
theorem dX4_read_190 : decode cX4_read 190 = .ok (.iinc 7 1, 3) := by decide +kernel
theorem dX4_read_193 : decode cX4_read 193 = .ok (.goto (-138), 3) := by decide +kernel
theorem dX4_read_196 : decode cX4_read 196 = .ok (.aload_n 0, 1) := by decide +kernel
theorem dX4_read_197 : decode cX4_read 197 = .ok (.iload 5, 2) := by decide +kernel
theorem dX4_read_199 : decode cX4_read 199 = .ok (.putfield 285, 3) := by decide +kernel
theorem dX4_read_202 : decode cX4_read 202 = .ok (.iload 6, 2) := by decide +kernel
theorem dX4_read_204 : decode cX4_read 204 = .ok (.ireturn, 1) := by decide +kernel
theorem dX4_torn_0 : decode cX4_torn 0 = .ok (.aload_n 0, 1) := by decide +kernel
theorem dX4_torn_1 : decode cX4_torn 1 = .ok (.getfield 285, 3) := by decide +kernel
theorem dX4_torn_4 : decode cX4_torn 4 = .ok (.ireturn, 1) := by decide +kernel
theorem dX4_count_0 : decode cX4_count 0 = .ok (.iconst 0, 1) := by decide +kernel
theorem dX4_count_1 : decode cX4_count 1 = .ok (.istore_n 2, 1) := by decide +kernel
theorem dX4_count_2 : decode cX4_count 2 = .ok (.iconst 0, 1) := by decide +kernel
theorem dX4_count_3 : decode cX4_count 3 = .ok (.istore_n 3, 1) := by decide +kernel
theorem dX4_count_4 : decode cX4_count 4 = .ok (.iconst 0, 1) := by decide +kernel
theorem dX4_count_5 : decode cX4_count 5 = .ok (.istore 4, 2) := by decide +kernel
theorem dX4_count_7 : decode cX4_count 7 = .ok (.iload 4, 2) := by decide +kernel
theorem dX4_count_9 : decode cX4_count 9 = .ok (.aload_n 0, 1) := by decide +kernel
theorem dX4_count_10 : decode cX4_count 10 = .ok (.getfield 150, 3) := by decide +kernel
theorem dX4_count_13 : decode cX4_count 13 = .ok (.if_icmp .ge 21, 3) := by decide +kernel
theorem dX4_count_16 : decode cX4_count 16 = .ok (.iload_n 2, 1) := by decide +kernel
theorem dX4_count_17 : decode cX4_count 17 = .ok (.aload_n 0, 1) := by decide +kernel
theorem dX4_count_18 : decode cX4_count 18 = .ok (.getfield 7, 3) := by decide +kernel
theorem dX4_count_21 : decode cX4_count 21 = .ok (.iconst 4, 1) := by decide +kernel
theorem dX4_count_22 : decode cX4_count 22 = .ok (.iload 4, 2) := by decide +kernel
theorem dX4_count_24 : decode cX4_count 24 = .ok (.iadd, 1) := by decide +kernel
theorem dX4_count_25 : decode cX4_count 25 = .ok (.iaload, 1) := by decide +kernel
theorem dX4_count_26 : decode cX4_count 26 = .ok (.iadd, 1) := by decide +kernel
theorem dX4_count_27 : decode cX4_count 27 = .ok (.istore_n 2, 1) := by decide +kernel
theorem dX4_count_28 : decode cX4_count 28 = .ok (.iinc 4 1, 3) := by decide +kernel
theorem dX4_count_31 : decode cX4_count 31 = .ok (.goto (-24), 3) := by decide +kernel
theorem dX4_count_34 : decode cX4_count 34 = .ok (.iconst 0, 1) := by decide +kernel
theorem dX4_count_35 : decode cX4_count 35 = .ok (.istore 4, 2) := by decide +kernel
theorem dX4_count_37 : decode cX4_count 37 = .ok (.iload 4, 2) := by decide +kernel
theorem dX4_count_39 : decode cX4_count 39 = .ok (.aload_n 0, 1) := by decide +kernel
theorem dX4_count_40 : decode cX4_count 40 = .ok (.getfield 153, 3) := by decide +kernel
theorem dX4_count_43 : decode cX4_count 43 = .ok (.if_icmp .ge 24, 3) := by decide +kernel
theorem dX4_count_46 : decode cX4_count 46 = .ok (.iload_n 3, 1) := by decide +kernel
theorem dX4_count_47 : decode cX4_count 47 = .ok (.iconst 1, 1) := by decide +kernel
theorem dX4_count_48 : decode cX4_count 48 = .ok (.aload_n 0, 1) := by decide +kernel
theorem dX4_count_49 : decode cX4_count 49 = .ok (.getfield 7, 3) := by decide +kernel
theorem dX4_count_52 : decode cX4_count 52 = .ok (.bipush 14, 2) := by decide +kernel
theorem dX4_count_54 : decode cX4_count 54 = .ok (.iload 4, 2) := by decide +kernel
theorem dX4_count_56 : decode cX4_count 56 = .ok (.iadd, 1) := by decide +kernel
theorem dX4_count_57 : decode cX4_count 57 = .ok (.iaload, 1) := by decide +kernel
theorem dX4_count_58 : decode cX4_count 58 = .ok (.isub, 1) := by decide +kernel
theorem dX4_count_59 : decode cX4_count 59 = .ok (.iadd, 1) := by decide +kernel
theorem dX4_count_60 : decode cX4_count 60 = .ok (.istore_n 3, 1) := by decide +kernel
theorem dX4_count_61 : decode cX4_count 61 = .ok (.iinc 4 1, 3) := by decide +kernel
theorem dX4_count_64 : decode cX4_count 64 = .ok (.goto (-27), 3) := by decide +kernel
theorem dX4_count_67 : decode cX4_count 67 = .ok (.iload_n 1, 1) := by decide +kernel
theorem dX4_count_68 : decode cX4_count 68 = .ok (.tableswitch 117 0 6 #[44, 49, 79, 84, 107, 113, 115], 44) := by decide +kernel
theorem dX4_count_112 : decode cX4_count 112 = .ok (.aload_n 0, 1) := by decide +kernel
theorem dX4_count_113 : decode cX4_count 113 = .ok (.getfield 162, 3) := by decide +kernel
theorem dX4_count_116 : decode cX4_count 116 = .ok (.ireturn, 1) := by decide +kernel
theorem dX4_count_117 : decode cX4_count 117 = .ok (.aload_n 0, 1) := by decide +kernel
theorem dX4_count_118 : decode cX4_count 118 = .ok (.getfield 44, 3) := by decide +kernel
theorem dX4_count_121 : decode cX4_count 121 = .ok (.iconst 0, 1) := by decide +kernel
theorem dX4_count_122 : decode cX4_count 122 = .ok (.baload, 1) := by decide +kernel
theorem dX4_count_123 : decode cX4_count 123 = .ok (.ifCond .eq 7, 3) := by decide +kernel
theorem dX4_count_126 : decode cX4_count 126 = .ok (.iconst 1, 1) := by decide +kernel
theorem dX4_count_127 : decode cX4_count 127 = .ok (.goto 4, 3) := by decide +kernel
theorem dX4_count_130 : decode cX4_count 130 = .ok (.iconst 0, 1) := by decide +kernel
theorem dX4_count_131 : decode cX4_count 131 = .ok (.aload_n 0, 1) := by decide +kernel
theorem dX4_count_132 : decode cX4_count 132 = .ok (.getfield 44, 3) := by decide +kernel
theorem dX4_count_135 : decode cX4_count 135 = .ok (.iconst 1, 1) := by decide +kernel
theorem dX4_count_136 : decode cX4_count 136 = .ok (.baload, 1) := by decide +kernel
theorem dX4_count_137 : decode cX4_count 137 = .ok (.ifCond .eq 7, 3) := by decide +kernel
theorem dX4_count_140 : decode cX4_count 140 = .ok (.iconst 1, 1) := by decide +kernel
theorem dX4_count_141 : decode cX4_count 141 = .ok (.goto 4, 3) := by decide +kernel
theorem dX4_count_144 : decode cX4_count 144 = .ok (.iconst 0, 1) := by decide +kernel
theorem dX4_count_145 : decode cX4_count 145 = .ok (.iadd, 1) := by decide +kernel
theorem dX4_count_146 : decode cX4_count 146 = .ok (.ireturn, 1) := by decide +kernel
theorem dX4_count_147 : decode cX4_count 147 = .ok (.aload_n 0, 1) := by decide +kernel
theorem dX4_count_148 : decode cX4_count 148 = .ok (.getfield 63, 3) := by decide +kernel
theorem dX4_count_151 : decode cX4_count 151 = .ok (.ireturn, 1) := by decide +kernel
theorem dX4_count_152 : decode cX4_count 152 = .ok (.aload_n 0, 1) := by decide +kernel
theorem dX4_count_153 : decode cX4_count 153 = .ok (.getfield 48, 3) := by decide +kernel
theorem dX4_count_156 : decode cX4_count 156 = .ok (.iconst 0, 1) := by decide +kernel
theorem dX4_count_157 : decode cX4_count 157 = .ok (.iaload, 1) := by decide +kernel
theorem dX4_count_158 : decode cX4_count 158 = .ok (.bipush (-4), 2) := by decide +kernel
theorem dX4_count_160 : decode cX4_count 160 = .ok (.if_icmp .ne 8, 3) := by decide +kernel
theorem dX4_count_163 : decode cX4_count 163 = .ok (.bipush (-4), 2) := by decide +kernel
theorem dX4_count_165 : decode cX4_count 165 = .ok (.goto 9, 3) := by decide +kernel
theorem dX4_count_168 : decode cX4_count 168 = .ok (.aload_n 0, 1) := by decide +kernel
theorem dX4_count_169 : decode cX4_count 169 = .ok (.getfield 51, 3) := by decide +kernel
theorem dX4_count_172 : decode cX4_count 172 = .ok (.iconst 0, 1) := by decide +kernel
theorem dX4_count_173 : decode cX4_count 173 = .ok (.iaload, 1) := by decide +kernel
theorem dX4_count_174 : decode cX4_count 174 = .ok (.ireturn, 1) := by decide +kernel
theorem dX4_count_175 : decode cX4_count 175 = .ok (.aload_n 0, 1) := by decide +kernel
theorem dX4_count_176 : decode cX4_count 176 = .ok (.iconst 0, 1) := by decide +kernel
theorem dX4_count_177 : decode cX4_count 177 = .ok (.invokevirtual 218, 3) := by decide +kernel
theorem dX4_count_180 : decode cX4_count 180 = .ok (.ireturn, 1) := by decide +kernel
theorem dX4_count_181 : decode cX4_count 181 = .ok (.iload_n 2, 1) := by decide +kernel
theorem dX4_count_182 : decode cX4_count 182 = .ok (.ireturn, 1) := by decide +kernel
theorem dX4_count_183 : decode cX4_count 183 = .ok (.iload_n 3, 1) := by decide +kernel
theorem dX4_count_184 : decode cX4_count 184 = .ok (.ireturn, 1) := by decide +kernel
theorem dX4_count_185 : decode cX4_count 185 = .ok (.iconst (-1), 1) := by decide +kernel
theorem dX4_count_186 : decode cX4_count 186 = .ok (.ireturn, 1) := by decide +kernel
