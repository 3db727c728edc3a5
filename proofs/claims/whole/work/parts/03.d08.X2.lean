theorem dX2_init_0 : decode cX2_init 0 = .ok (.aload_n 0, 1) := by decide +kernel
theorem dX2_init_1 : decode cX2_init 1 = .ok (.invokespecial 3, 3) := by decide +kernel
theorem dX2_init_4 : decode cX2_init 4 = .ok (.aload_n 0, 1) := by decide +kernel
theorem dX2_init_5 : decode cX2_init 5 = .ok (.iconst 0, 1) := by decide +kernel
theorem dX2_init_6 : decode cX2_init 6 = .ok (.putfield 9, 3) := by decide +kernel
theorem dX2_init_9 : decode cX2_init 9 = .ok (.aload_n 0, 1) := by decide +kernel
theorem dX2_init_10 : decode cX2_init 10 = .ok (.iconst 0, 1) := by decide +kernel
theorem dX2_init_11 : decode cX2_init 11 = .ok (.putfield 15, 3) := by decide +kernel
theorem dX2_init_14 : decode cX2_init 14 = .ok (.aload_n 0, 1) := by decide +kernel
theorem dX2_init_15 : decode cX2_init 15 = .ok (.iconst 0, 1) := by decide +kernel
theorem dX2_init_16 : decode cX2_init 16 = .ok (.putfield 18, 3) := by decide +kernel
theorem dX2_init_19 : decode cX2_init 19 = .ok (.aload_n 0, 1) := by decide +kernel
theorem dX2_init_20 : decode cX2_init 20 = .ok (.iconst 0, 1) := by decide +kernel
theorem dX2_init_21 : decode cX2_init 21 = .ok (.putfield 21, 3) := by decide +kernel
theorem dX2_init_24 : decode cX2_init 24 = .ok (.aload_n 0, 1) := by decide +kernel
theorem dX2_init_25 : decode cX2_init 25 = .ok (.iconst 0, 1) := by decide +kernel
theorem dX2_init_26 : decode cX2_init 26 = .ok (.putfield 24, 3) := by decide +kernel
theorem dX2_init_29 : decode cX2_init 29 = .ok (.aload_n 0, 1) := by decide +kernel
theorem dX2_init_30 : decode cX2_init 30 = .ok (.iconst 0, 1) := by decide +kernel
theorem dX2_init_31 : decode cX2_init 31 = .ok (.putfield 27, 3) := by decide +kernel
theorem dX2_init_34 : decode cX2_init 34 = .ok (.aload_n 0, 1) := by decide +kernel
theorem dX2_init_35 : decode cX2_init 35 = .ok (.iconst 0, 1) := by decide +kernel
theorem dX2_init_36 : decode cX2_init 36 = .ok (.putfield 30, 3) := by decide +kernel
theorem dX2_init_39 : decode cX2_init 39 = .ok (.aload_n 0, 1) := by decide +kernel
theorem dX2_init_40 : decode cX2_init 40 = .ok (.iconst 0, 1) := by decide +kernel
theorem dX2_init_41 : decode cX2_init 41 = .ok (.putfield 33, 3) := by decide +kernel
theorem dX2_init_44 : decode cX2_init 44 = .ok (.aload_n 0, 1) := by decide +kernel
theorem dX2_init_45 : decode cX2_init 45 = .ok (.iconst 0, 1) := by decide +kernel
theorem dX2_init_46 : decode cX2_init 46 = .ok (.putfield 36, 3) := by decide +kernel
theorem dX2_init_49 : decode cX2_init 49 = .ok (.aload_n 0, 1) := by decide +kernel
theorem dX2_init_50 : decode cX2_init 50 = .ok (.iconst 0, 1) := by decide +kernel
theorem dX2_init_51 : decode cX2_init 51 = .ok (.putfield 39, 3) := by decide +kernel
theorem dX2_init_54 : decode cX2_init 54 = .ok (.aload_n 0, 1) := by decide +kernel
theorem dX2_init_55 : decode cX2_init 55 = .ok (.aload_n 1, 1) := by decide +kernel
theorem dX2_init_56 : decode cX2_init 56 = .ok (.putfield 42, 3) := by decide +kernel
theorem dX2_init_59 : decode cX2_init 59 = .ok (.aload_n 0, 1) := by decide +kernel
theorem dX2_init_60 : decode cX2_init 60 = .ok (.aload_n 2, 1) := by decide +kernel
theorem dX2_init_61 : decode cX2_init 61 = .ok (.putfield 46, 3) := by decide +kernel
theorem dX2_init_64 : decode cX2_init 64 = .ok (.return_, 1) := by decide +kernel
theorem dX2_readAll_0 : decode cX2_readAll 0 = .ok (.aload_n 0, 1) := by decide +kernel
theorem dX2_readAll_1 : decode cX2_readAll 1 = .ok (.iload_n 1, 1) := by decide +kernel
theorem dX2_readAll_2 : decode cX2_readAll 2 = .ok (.aload_n 0, 1) := by decide +kernel
theorem dX2_readAll_3 : decode cX2_readAll 3 = .ok (.getfield 42, 3) := by decide +kernel
theorem dX2_readAll_6 : decode cX2_readAll 6 = .ok (.arraylength, 1) := by decide +kernel
theorem dX2_readAll_7 : decode cX2_readAll 7 = .ok (.invokestatic 50, 3) := by decide +kernel
theorem dX2_readAll_10 : decode cX2_readAll 10 = .ok (.putfield 9, 3) := by decide +kernel
theorem dX2_readAll_13 : decode cX2_readAll 13 = .ok (.aload_n 0, 1) := by decide +kernel
theorem dX2_readAll_14 : decode cX2_readAll 14 = .ok (.getfield 46, 3) := by decide +kernel
theorem dX2_readAll_17 : decode cX2_readAll 17 = .ok (.invokevirtual 56, 3) := by decide +kernel
theorem dX2_readAll_20 : decode cX2_readAll 20 = .ok (.aload_n 0, 1) := by decide +kernel
theorem dX2_readAll_21 : decode cX2_readAll 21 = .ok (.iconst 0, 1) := by decide +kernel
theorem dX2_readAll_22 : decode cX2_readAll 22 = .ok (.putfield 21, 3) := by decide +kernel
theorem dX2_readAll_25 : decode cX2_readAll 25 = .ok (.aload_n 0, 1) := by decide +kernel
theorem dX2_readAll_26 : decode cX2_readAll 26 = .ok (.iconst 0, 1) := by decide +kernel
theorem dX2_readAll_27 : decode cX2_readAll 27 = .ok (.putfield 27, 3) := by decide +kernel
theorem dX2_readAll_30 : decode cX2_readAll 30 = .ok (.aload_n 0, 1) := by decide +kernel
theorem dX2_readAll_31 : decode cX2_readAll 31 = .ok (.iconst 0, 1) := by decide +kernel
theorem dX2_readAll_32 : decode cX2_readAll 32 = .ok (.putfield 30, 3) := by decide +kernel
theorem dX2_readAll_35 : decode cX2_readAll 35 = .ok (.aload_n 0, 1) := by decide +kernel
theorem dX2_readAll_36 : decode cX2_readAll 36 = .ok (.iconst 0, 1) := by decide +kernel
theorem dX2_readAll_37 : decode cX2_readAll 37 = .ok (.putfield 33, 3) := by decide +kernel
theorem dX2_readAll_40 : decode cX2_readAll 40 = .ok (.aload_n 0, 1) := by decide +kernel
theorem dX2_readAll_41 : decode cX2_readAll 41 = .ok (.iconst 0, 1) := by decide +kernel
theorem dX2_readAll_42 : decode cX2_readAll 42 = .ok (.putfield 36, 3) := by decide +kernel
theorem dX2_readAll_45 : decode cX2_readAll 45 = .ok (.aload_n 0, 1) := by decide +kernel
theorem dX2_readAll_46 : decode cX2_readAll 46 = .ok (.iconst 0, 1) := by decide +kernel
theorem dX2_readAll_47 : decode cX2_readAll 47 = .ok (.putfield 39, 3) := by decide +kernel
theorem dX2_readAll_50 : decode cX2_readAll 50 = .ok (.iconst 0, 1) := by decide +kernel
theorem dX2_readAll_51 : decode cX2_readAll 51 = .ok (.istore_n 2, 1) := by decide +kernel
theorem dX2_readAll_52 : decode cX2_readAll 52 = .ok (.iload_n 2, 1) := by decide +kernel
theorem dX2_readAll_53 : decode cX2_readAll 53 = .ok (.sipush 160, 3) := by decide +kernel
theorem dX2_readAll_56 : decode cX2_readAll 56 = .ok (.if_icmp .gt 43, 3) := by decide +kernel
theorem dX2_readAll_59 : decode cX2_readAll 59 = .ok (.aload_n 0, 1) := by decide +kernel
theorem dX2_readAll_60 : decode cX2_readAll 60 = .ok (.invokevirtual 61, 3) := by decide +kernel
theorem dX2_readAll_63 : decode cX2_readAll 63 = .ok (.ifCond .eq 36, 3) := by decide +kernel
theorem dX2_readAll_66 : decode cX2_readAll 66 = .ok (.aload_n 0, 1) := by decide +kernel
theorem dX2_readAll_67 : decode cX2_readAll 67 = .ok (.getfield 15, 3) := by decide +kernel
theorem dX2_readAll_70 : decode cX2_readAll 70 = .ok (.ifCond .eq 29, 3) := by decide +kernel
theorem dX2_readAll_73 : decode cX2_readAll 73 = .ok (.aload_n 0, 1) := by decide +kernel
theorem dX2_readAll_74 : decode cX2_readAll 74 = .ok (.invokevirtual 65, 3) := by decide +kernel
theorem dX2_readAll_77 : decode cX2_readAll 77 = .ok (.ifCond .ne 6, 3) := by decide +kernel
theorem dX2_readAll_80 : decode cX2_readAll 80 = .ok (.goto 19, 3) := by decide +kernel
theorem dX2_readAll_83 : decode cX2_readAll 83 = .ok (.aload_n 0, 1) := by decide +kernel
theorem dX2_readAll_84 : decode cX2_readAll 84 = .ok (.dup, 1) := by decide +kernel
theorem dX2_readAll_85 : decode cX2_readAll 85 = .ok (.getfield 33, 3) := by decide +kernel
theorem dX2_readAll_88 : decode cX2_readAll 88 = .ok (.iconst 1, 1) := by decide +kernel
theorem dX2_readAll_89 : decode cX2_readAll 89 = .ok (.iadd, 1) := by decide +kernel
theorem dX2_readAll_90 : decode cX2_readAll 90 = .ok (.putfield 33, 3) := by decide +kernel
theorem dX2_readAll_93 : decode cX2_readAll 93 = .ok (.iinc 2 1, 3) := by decide +kernel
theorem dX2_readAll_96 : decode cX2_readAll 96 = .ok (.goto (-44), 3) := by decide +kernel
theorem dX2_readAll_99 : decode cX2_readAll 99 = .ok (.aload_n 0, 1) := by decide +kernel
theorem dX2_readAll_100 : decode cX2_readAll 100 = .ok (.getfield 36, 3) := by decide +kernel
theorem dX2_readAll_103 : decode cX2_readAll 103 = .ok (.ifCond .ne 7, 3) := by decide +kernel
theorem dX2_readAll_106 : decode cX2_readAll 106 = .ok (.aload_n 0, 1) := by decide +kernel
theorem dX2_readAll_107 : decode cX2_readAll 107 = .ok (.invokevirtual 68, 3) := by decide +kernel
theorem dX2_readAll_110 : decode cX2_readAll 110 = .ok (.return_, 1) := by decide +kernel
theorem dX2_fail_0 : decode cX2_fail 0 = .ok (.aload_n 0, 1) := by decide +kernel
theorem dX2_fail_1 : decode cX2_fail 1 = .ok (.iload_n 1, 1) := by decide +kernel
theorem dX2_fail_2 : decode cX2_fail 2 = .ok (.putfield 36, 3) := by decide +kernel
theorem dX2_fail_5 : decode cX2_fail 5 = .ok (.aload_n 0, 1) := by decide +kernel
theorem dX2_fail_6 : decode cX2_fail 6 = .ok (.iload_n 2, 1) := by decide +kernel
theorem dX2_fail_7 : decode cX2_fail 7 = .ok (.putfield 39, 3) := by decide +kernel
theorem dX2_fail_10 : decode cX2_fail 10 = .ok (.iconst 0, 1) := by decide +kernel
theorem dX2_fail_11 : decode cX2_fail 11 = .ok (.ireturn, 1) := by decide +kernel
theorem dX2_dryUpWells_0 : decode cX2_dryUpWells 0 = .ok (.iconst 0, 1) := by decide +kernel
theorem dX2_dryUpWells_1 : decode cX2_dryUpWells 1 = .ok (.istore_n 1, 1) := by decide +kernel
theorem dX2_dryUpWells_2 : decode cX2_dryUpWells 2 = .ok (.iload_n 1, 1) := by decide +kernel
theorem dX2_dryUpWells_3 : decode cX2_dryUpWells 3 = .ok (.iconst 3, 1) := by decide +kernel
theorem dX2_dryUpWells_4 : decode cX2_dryUpWells 4 = .ok (.if_icmp .ge 54, 3) := by decide +kernel
theorem dX2_dryUpWells_7 : decode cX2_dryUpWells 7 = .ok (.aload_n 0, 1) := by decide +kernel
theorem dX2_dryUpWells_8 : decode cX2_dryUpWells 8 = .ok (.getfield 30, 3) := by decide +kernel
theorem dX2_dryUpWells_11 : decode cX2_dryUpWells 11 = .ok (.iload_n 1, 1) := by decide +kernel
theorem dX2_dryUpWells_12 : decode cX2_dryUpWells 12 = .ok (.ishr, 1) := by decide +kernel
theorem dX2_dryUpWells_13 : decode cX2_dryUpWells 13 = .ok (.iconst 1, 1) := by decide +kernel
theorem dX2_dryUpWells_14 : decode cX2_dryUpWells 14 = .ok (.iand, 1) := by decide +kernel
theorem dX2_dryUpWells_15 : decode cX2_dryUpWells 15 = .ok (.iconst 1, 1) := by decide +kernel
theorem dX2_dryUpWells_16 : decode cX2_dryUpWells 16 = .ok (.if_icmp .ne 36, 3) := by decide +kernel
theorem dX2_dryUpWells_19 : decode cX2_dryUpWells 19 = .ok (.iload_n 1, 1) := by decide +kernel
theorem dX2_dryUpWells_20 : decode cX2_dryUpWells 20 = .ok (.aload_n 0, 1) := by decide +kernel
theorem dX2_dryUpWells_21 : decode cX2_dryUpWells 21 = .ok (.getfield 46, 3) := by decide +kernel
theorem dX2_dryUpWells_24 : decode cX2_dryUpWells 24 = .ok (.getfield 71, 3) := by decide +kernel
theorem dX2_dryUpWells_27 : decode cX2_dryUpWells 27 = .ok (.if_icmp .lt 15, 3) := by decide +kernel
theorem dX2_dryUpWells_30 : decode cX2_dryUpWells 30 = .ok (.aload_n 0, 1) := by decide +kernel
theorem dX2_dryUpWells_31 : decode cX2_dryUpWells 31 = .ok (.bipush 6, 2) := by decide +kernel
theorem dX2_dryUpWells_33 : decode cX2_dryUpWells 33 = .ok (.aload_n 0, 1) := by decide +kernel
theorem dX2_dryUpWells_34 : decode cX2_dryUpWells 34 = .ok (.getfield 9, 3) := by decide +kernel
theorem dX2_dryUpWells_37 : decode cX2_dryUpWells 37 = .ok (.invokevirtual 74, 3) := by decide +kernel
theorem dX2_dryUpWells_40 : decode cX2_dryUpWells 40 = .ok (.pop, 1) := by decide +kernel
theorem dX2_dryUpWells_41 : decode cX2_dryUpWells 41 = .ok (.return_, 1) := by decide +kernel
theorem dX2_dryUpWells_42 : decode cX2_dryUpWells 42 = .ok (.aload_n 0, 1) := by decide +kernel
theorem dX2_dryUpWells_43 : decode cX2_dryUpWells 43 = .ok (.getfield 46, 3) := by decide +kernel
theorem dX2_dryUpWells_46 : decode cX2_dryUpWells 46 = .ok (.getfield 78, 3) := by decide +kernel
theorem dX2_dryUpWells_49 : decode cX2_dryUpWells 49 = .ok (.iload_n 1, 1) := by decide +kernel
theorem dX2_dryUpWells_50 : decode cX2_dryUpWells 50 = .ok (.iconst 0, 1) := by decide +kernel
theorem dX2_dryUpWells_51 : decode cX2_dryUpWells 51 = .ok (.bastore, 1) := by decide +kernel
theorem dX2_dryUpWells_52 : decode cX2_dryUpWells 52 = .ok (.iinc 1 1, 3) := by decide +kernel
theorem dX2_dryUpWells_55 : decode cX2_dryUpWells 55 = .ok (.goto (-53), 3) := by decide +kernel
theorem dX2_dryUpWells_58 : decode cX2_dryUpWells 58 = .ok (.return_, 1) := by decide +kernel
theorem dX2_nextToken_0 : decode cX2_nextToken 0 = .ok (.aload_n 0, 1) := by decide +kernel
theorem dX2_nextToken_1 : decode cX2_nextToken 1 = .ok (.aload_n 0, 1) := by decide +kernel
theorem dX2_nextToken_2 : decode cX2_nextToken 2 = .ok (.aload_n 0, 1) := by decide +kernel
theorem dX2_nextToken_3 : decode cX2_nextToken 3 = .ok (.getfield 21, 3) := by decide +kernel
theorem dX2_nextToken_6 : decode cX2_nextToken 6 = .ok (.bipush 32, 2) := by decide +kernel
theorem dX2_nextToken_8 : decode cX2_nextToken 8 = .ok (.bipush 32, 2) := by decide +kernel
theorem dX2_nextToken_10 : decode cX2_nextToken 10 = .ok (.invokevirtual 82, 3) := by decide +kernel
theorem dX2_nextToken_13 : decode cX2_nextToken 13 = .ok (.putfield 18, 3) := by decide +kernel
theorem dX2_nextToken_16 : decode cX2_nextToken 16 = .ok (.aload_n 0, 1) := by decide +kernel
theorem dX2_nextToken_17 : decode cX2_nextToken 17 = .ok (.aload_n 0, 1) := by decide +kernel
theorem dX2_nextToken_18 : decode cX2_nextToken 18 = .ok (.getfield 9, 3) := by decide +kernel
theorem dX2_nextToken_21 : decode cX2_nextToken 21 = .ok (.putfield 21, 3) := by decide +kernel
theorem dX2_nextToken_24 : decode cX2_nextToken 24 = .ok (.aload_n 0, 1) := by decide +kernel
theorem dX2_nextToken_25 : decode cX2_nextToken 25 = .ok (.getfield 18, 3) := by decide +kernel
theorem dX2_nextToken_28 : decode cX2_nextToken 28 = .ok (.aload_n 0, 1) := by decide +kernel
theorem dX2_nextToken_29 : decode cX2_nextToken 29 = .ok (.getfield 9, 3) := by decide +kernel
theorem dX2_nextToken_32 : decode cX2_nextToken 32 = .ok (.if_icmp .lt 10, 3) := by decide +kernel
theorem dX2_nextToken_35 : decode cX2_nextToken 35 = .ok (.aload_n 0, 1) := by decide +kernel
theorem dX2_nextToken_36 : decode cX2_nextToken 36 = .ok (.iconst 0, 1) := by decide +kernel
theorem dX2_nextToken_37 : decode cX2_nextToken 37 = .ok (.putfield 15, 3) := by decide +kernel
theorem dX2_nextToken_40 : decode cX2_nextToken 40 = .ok (.iconst 1, 1) := by decide +kernel
theorem dX2_nextToken_41 : decode cX2_nextToken 41 = .ok (.ireturn, 1) := by decide +kernel
theorem dX2_nextToken_42 : decode cX2_nextToken 42 = .ok (.aload_n 0, 1) := by decide +kernel
theorem dX2_nextToken_43 : decode cX2_nextToken 43 = .ok (.getfield 42, 3) := by decide +kernel
theorem dX2_nextToken_46 : decode cX2_nextToken 46 = .ok (.aload_n 0, 1) := by decide +kernel
theorem dX2_nextToken_47 : decode cX2_nextToken 47 = .ok (.getfield 18, 3) := by decide +kernel
theorem dX2_nextToken_50 : decode cX2_nextToken 50 = .ok (.baload, 1) := by decide +kernel
theorem dX2_nextToken_51 : decode cX2_nextToken 51 = .ok (.istore_n 1, 1) := by decide +kernel
theorem dX2_nextToken_52 : decode cX2_nextToken 52 = .ok (.iload_n 1, 1) := by decide +kernel
theorem dX2_nextToken_53 : decode cX2_nextToken 53 = .ok (.bipush 97, 2) := by decide +kernel
theorem dX2_nextToken_55 : decode cX2_nextToken 55 = .ok (.bipush 122, 2) := by decide +kernel
theorem dX2_nextToken_57 : decode cX2_nextToken 57 = .ok (.invokestatic 86, 3) := by decide +kernel
theorem dX2_nextToken_60 : decode cX2_nextToken 60 = .ok (.ifCond .eq 26, 3) := by decide +kernel
theorem dX2_nextToken_63 : decode cX2_nextToken 63 = .ok (.aload_n 0, 1) := by decide +kernel
theorem dX2_nextToken_64 : decode cX2_nextToken 64 = .ok (.iconst 1, 1) := by decide +kernel
theorem dX2_nextToken_65 : decode cX2_nextToken 65 = .ok (.putfield 15, 3) := by decide +kernel
theorem dX2_nextToken_68 : decode cX2_nextToken 68 = .ok (.aload_n 0, 1) := by decide +kernel
theorem dX2_nextToken_69 : decode cX2_nextToken 69 = .ok (.aload_n 0, 1) := by decide +kernel
theorem dX2_nextToken_70 : decode cX2_nextToken 70 = .ok (.aload_n 0, 1) := by decide +kernel
theorem dX2_nextToken_71 : decode cX2_nextToken 71 = .ok (.getfield 18, 3) := by decide +kernel
theorem dX2_nextToken_74 : decode cX2_nextToken 74 = .ok (.bipush 97, 2) := by decide +kernel
theorem dX2_nextToken_76 : decode cX2_nextToken 76 = .ok (.bipush 122, 2) := by decide +kernel
theorem dX2_nextToken_78 : decode cX2_nextToken 78 = .ok (.invokevirtual 82, 3) := by decide +kernel
theorem dX2_nextToken_81 : decode cX2_nextToken 81 = .ok (.putfield 21, 3) := by decide +kernel
theorem dX2_nextToken_84 : decode cX2_nextToken 84 = .ok (.iconst 1, 1) := by decide +kernel
theorem dX2_nextToken_85 : decode cX2_nextToken 85 = .ok (.ireturn, 1) := by decide +kernel
theorem dX2_nextToken_86 : decode cX2_nextToken 86 = .ok (.iload_n 1, 1) := by decide +kernel
theorem dX2_nextToken_87 : decode cX2_nextToken 87 = .ok (.bipush 48, 2) := by decide +kernel
theorem dX2_nextToken_89 : decode cX2_nextToken 89 = .ok (.bipush 57, 2) := by decide +kernel
theorem dX2_nextToken_91 : decode cX2_nextToken 91 = .ok (.invokestatic 86, 3) := by decide +kernel
theorem dX2_nextToken_94 : decode cX2_nextToken 94 = .ok (.ifCond .eq 101, 3) := by decide +kernel
theorem dX2_nextToken_97 : decode cX2_nextToken 97 = .ok (.aload_n 0, 1) := by decide +kernel
theorem dX2_nextToken_98 : decode cX2_nextToken 98 = .ok (.iconst 2, 1) := by decide +kernel
theorem dX2_nextToken_99 : decode cX2_nextToken 99 = .ok (.putfield 15, 3) := by decide +kernel
theorem dX2_nextToken_102 : decode cX2_nextToken 102 = .ok (.aload_n 0, 1) := by decide +kernel
theorem dX2_nextToken_103 : decode cX2_nextToken 103 = .ok (.aload_n 0, 1) := by decide +kernel
theorem dX2_nextToken_104 : decode cX2_nextToken 104 = .ok (.aload_n 0, 1) := by decide +kernel
theorem dX2_nextToken_105 : decode cX2_nextToken 105 = .ok (.getfield 18, 3) := by decide +kernel
theorem dX2_nextToken_108 : decode cX2_nextToken 108 = .ok (.bipush 48, 2) := by decide +kernel
theorem dX2_nextToken_110 : decode cX2_nextToken 110 = .ok (.bipush 57, 2) := by decide +kernel
theorem dX2_nextToken_112 : decode cX2_nextToken 112 = .ok (.invokevirtual 82, 3) := by decide +kernel
theorem dX2_nextToken_115 : decode cX2_nextToken 115 = .ok (.putfield 21, 3) := by decide +kernel
theorem dX2_nextToken_118 : decode cX2_nextToken 118 = .ok (.aload_n 0, 1) := by decide +kernel
theorem dX2_nextToken_119 : decode cX2_nextToken 119 = .ok (.aload_n 0, 1) := by decide +kernel
theorem dX2_nextToken_120 : decode cX2_nextToken 120 = .ok (.getfield 21, 3) := by decide +kernel
theorem dX2_nextToken_123 : decode cX2_nextToken 123 = .ok (.aload_n 0, 1) := by decide +kernel
theorem dX2_nextToken_124 : decode cX2_nextToken 124 = .ok (.getfield 18, 3) := by decide +kernel
theorem dX2_nextToken_127 : decode cX2_nextToken 127 = .ok (.isub, 1) := by decide +kernel
theorem dX2_nextToken_128 : decode cX2_nextToken 128 = .ok (.iconst 1, 1) := by decide +kernel
theorem dX2_nextToken_129 : decode cX2_nextToken 129 = .ok (.if_icmp .ne 10, 3) := by decide +kernel
theorem dX2_nextToken_132 : decode cX2_nextToken 132 = .ok (.iload_n 1, 1) := by decide +kernel
theorem dX2_nextToken_133 : decode cX2_nextToken 133 = .ok (.bipush 48, 2) := by decide +kernel
theorem dX2_nextToken_135 : decode cX2_nextToken 135 = .ok (.isub, 1) := by decide +kernel
theorem dX2_nextToken_136 : decode cX2_nextToken 136 = .ok (.goto 25, 3) := by decide +kernel
theorem dX2_nextToken_139 : decode cX2_nextToken 139 = .ok (.iload_n 1, 1) := by decide +kernel
theorem dX2_nextToken_140 : decode cX2_nextToken 140 = .ok (.bipush 48, 2) := by decide +kernel
theorem dX2_nextToken_142 : decode cX2_nextToken 142 = .ok (.isub, 1) := by decide +kernel
theorem dX2_nextToken_143 : decode cX2_nextToken 143 = .ok (.bipush 10, 2) := by decide +kernel
theorem dX2_nextToken_145 : decode cX2_nextToken 145 = .ok (.imul, 1) := by decide +kernel
theorem dX2_nextToken_146 : decode cX2_nextToken 146 = .ok (.aload_n 0, 1) := by decide +kernel
theorem dX2_nextToken_147 : decode cX2_nextToken 147 = .ok (.getfield 42, 3) := by decide +kernel
theorem dX2_nextToken_150 : decode cX2_nextToken 150 = .ok (.aload_n 0, 1) := by decide +kernel
theorem dX2_nextToken_151 : decode cX2_nextToken 151 = .ok (.getfield 18, 3) := by decide +kernel
theorem dX2_nextToken_154 : decode cX2_nextToken 154 = .ok (.iconst 1, 1) := by decide +kernel
theorem dX2_nextToken_155 : decode cX2_nextToken 155 = .ok (.iadd, 1) := by decide +kernel
theorem dX2_nextToken_156 : decode cX2_nextToken 156 = .ok (.baload, 1) := by decide +kernel
theorem dX2_nextToken_157 : decode cX2_nextToken 157 = .ok (.iadd, 1) := by decide +kernel
theorem dX2_nextToken_158 : decode cX2_nextToken 158 = .ok (.bipush 48, 2) := by decide +kernel
theorem dX2_nextToken_160 : decode cX2_nextToken 160 = .ok (.isub, 1) := by decide +kernel
theorem dX2_nextToken_161 : decode cX2_nextToken 161 = .ok (.putfield 24, 3) := by decide +kernel
theorem dX2_nextToken_164 : decode cX2_nextToken 164 = .ok (.aload_n 0, 1) := by decide +kernel
theorem dX2_nextToken_165 : decode cX2_nextToken 165 = .ok (.getfield 21, 3) := by decide +kernel
theorem dX2_nextToken_168 : decode cX2_nextToken 168 = .ok (.aload_n 0, 1) := by decide +kernel
theorem dX2_nextToken_169 : decode cX2_nextToken 169 = .ok (.getfield 18, 3) := by decide +kernel
theorem dX2_nextToken_172 : decode cX2_nextToken 172 = .ok (.isub, 1) := by decide +kernel
theorem dX2_nextToken_173 : decode cX2_nextToken 173 = .ok (.iconst 2, 1) := by decide +kernel
theorem dX2_nextToken_174 : decode cX2_nextToken 174 = .ok (.if_icmp .le 15, 3) := by decide +kernel
theorem dX2_nextToken_177 : decode cX2_nextToken 177 = .ok (.aload_n 0, 1) := by decide +kernel
theorem dX2_nextToken_178 : decode cX2_nextToken 178 = .ok (.iconst 1, 1) := by decide +kernel
theorem dX2_nextToken_179 : decode cX2_nextToken 179 = .ok (.aload_n 0, 1) := by decide +kernel
theorem dX2_nextToken_180 : decode cX2_nextToken 180 = .ok (.getfield 18, 3) := by decide +kernel
theorem dX2_nextToken_183 : decode cX2_nextToken 183 = .ok (.invokevirtual 74, 3) := by decide +kernel
theorem dX2_nextToken_186 : decode cX2_nextToken 186 = .ok (.ifCond .eq 7, 3) := by decide +kernel
theorem dX2_nextToken_189 : decode cX2_nextToken 189 = .ok (.iconst 1, 1) := by decide +kernel
theorem dX2_nextToken_190 : decode cX2_nextToken 190 = .ok (.goto 4, 3) := by decide +kernel
theorem dX2_nextToken_193 : decode cX2_nextToken 193 = .ok (.iconst 0, 1) := by decide +kernel
theorem dX2_nextToken_194 : decode cX2_nextToken 194 = .ok (.ireturn, 1) := by decide +kernel
theorem dX2_nextToken_195 : decode cX2_nextToken 195 = .ok (.aload_n 0, 1) := by decide +kernel
theorem dX2_nextToken_196 : decode cX2_nextToken 196 = .ok (.iconst 3, 1) := by decide +kernel
theorem dX2_nextToken_197 : decode cX2_nextToken 197 = .ok (.putfield 15, 3) := by decide +kernel
theorem dX2_nextToken_200 : decode cX2_nextToken 200 = .ok (.aload_n 0, 1) := by decide +kernel
theorem dX2_nextToken_201 : decode cX2_nextToken 201 = .ok (.aload_n 0, 1) := by decide +kernel
theorem dX2_nextToken_202 : decode cX2_nextToken 202 = .ok (.getfield 18, 3) := by decide +kernel
theorem dX2_nextToken_205 : decode cX2_nextToken 205 = .ok (.iconst 1, 1) := by decide +kernel
theorem dX2_nextToken_206 : decode cX2_nextToken 206 = .ok (.iadd, 1) := by decide +kernel
theorem dX2_nextToken_207 : decode cX2_nextToken 207 = .ok (.putfield 21, 3) := by decide +kernel
theorem dX2_nextToken_210 : decode cX2_nextToken 210 = .ok (.iload_n 1, 1) := by decide +kernel
theorem dX2_nextToken_211 : decode cX2_nextToken 211 = .ok (.bipush 59, 2) := by decide +kernel
theorem dX2_nextToken_213 : decode cX2_nextToken 213 = .ok (.if_icmp .eq 15, 3) := by decide +kernel
theorem dX2_nextToken_216 : decode cX2_nextToken 216 = .ok (.aload_n 0, 1) := by decide +kernel
theorem dX2_nextToken_217 : decode cX2_nextToken 217 = .ok (.iconst 1, 1) := by decide +kernel
theorem dX2_nextToken_218 : decode cX2_nextToken 218 = .ok (.aload_n 0, 1) := by decide +kernel
theorem dX2_nextToken_219 : decode cX2_nextToken 219 = .ok (.getfield 18, 3) := by decide +kernel
theorem dX2_nextToken_222 : decode cX2_nextToken 222 = .ok (.invokevirtual 74, 3) := by decide +kernel
theorem dX2_nextToken_225 : decode cX2_nextToken 225 = .ok (.ifCond .eq 7, 3) := by decide +kernel
theorem dX2_nextToken_228 : decode cX2_nextToken 228 = .ok (.iconst 1, 1) := by decide +kernel
theorem dX2_nextToken_229 : decode cX2_nextToken 229 = .ok (.goto 4, 3) := by decide +kernel
theorem dX2_nextToken_232 : decode cX2_nextToken 232 = .ok (.iconst 0, 1) := by decide +kernel
theorem dX2_nextToken_233 : decode cX2_nextToken 233 = .ok (.ireturn, 1) := by decide +kernel
theorem dX2_endOfRun_0 : decode cX2_endOfRun 0 = .ok (.iload_n 1, 1) := by decide +kernel
theorem dX2_endOfRun_1 : decode cX2_endOfRun 1 = .ok (.istore 4, 2) := by decide +kernel
theorem dX2_endOfRun_3 : decode cX2_endOfRun 3 = .ok (.iload 4, 2) := by decide +kernel
theorem dX2_endOfRun_5 : decode cX2_endOfRun 5 = .ok (.aload_n 0, 1) := by decide +kernel
theorem dX2_endOfRun_6 : decode cX2_endOfRun 6 = .ok (.getfield 9, 3) := by decide +kernel
theorem dX2_endOfRun_9 : decode cX2_endOfRun 9 = .ok (.if_icmp .ge 31, 3) := by decide +kernel
theorem dX2_endOfRun_12 : decode cX2_endOfRun 12 = .ok (.aload_n 0, 1) := by decide +kernel
theorem dX2_endOfRun_13 : decode cX2_endOfRun 13 = .ok (.getfield 42, 3) := by decide +kernel
theorem dX2_endOfRun_16 : decode cX2_endOfRun 16 = .ok (.iload 4, 2) := by decide +kernel
theorem dX2_endOfRun_18 : decode cX2_endOfRun 18 = .ok (.baload, 1) := by decide +kernel
theorem dX2_endOfRun_19 : decode cX2_endOfRun 19 = .ok (.iload_n 2, 1) := by decide +kernel
theorem dX2_endOfRun_20 : decode cX2_endOfRun 20 = .ok (.if_icmp .lt 20, 3) := by decide +kernel
theorem dX2_endOfRun_23 : decode cX2_endOfRun 23 = .ok (.aload_n 0, 1) := by decide +kernel
theorem dX2_endOfRun_24 : decode cX2_endOfRun 24 = .ok (.getfield 42, 3) := by decide +kernel
theorem dX2_endOfRun_27 : decode cX2_endOfRun 27 = .ok (.iload 4, 2) := by decide +kernel
theorem dX2_endOfRun_29 : decode cX2_endOfRun 29 = .ok (.baload, 1) := by decide +kernel
theorem dX2_endOfRun_30 : decode cX2_endOfRun 30 = .ok (.iload_n 3, 1) := by decide +kernel
theorem dX2_endOfRun_31 : decode cX2_endOfRun 31 = .ok (.if_icmp .gt 9, 3) := by decide +kernel
theorem dX2_endOfRun_34 : decode cX2_endOfRun 34 = .ok (.iinc 4 1, 3) := by decide +kernel
theorem dX2_endOfRun_37 : decode cX2_endOfRun 37 = .ok (.goto (-34), 3) := by decide +kernel
theorem dX2_endOfRun_40 : decode cX2_endOfRun 40 = .ok (.iload 4, 2) := by decide +kernel
theorem dX2_endOfRun_42 : decode cX2_endOfRun 42 = .ok (.ireturn, 1) := by decide +kernel
theorem dX2_isName_0 : decode cX2_isName 0 = .ok (.aload_n 0, 1) := by decide +kernel
theorem dX2_isName_1 : decode cX2_isName 1 = .ok (.getfield 15, 3) := by decide +kernel
theorem dX2_isName_4 : decode cX2_isName 4 = .ok (.iconst 1, 1) := by decide +kernel
theorem dX2_isName_5 : decode cX2_isName 5 = .ok (.if_icmp .ne 19, 3) := by decide +kernel
theorem dX2_isName_8 : decode cX2_isName 8 = .ok (.aload_n 0, 1) := by decide +kernel
theorem dX2_isName_9 : decode cX2_isName 9 = .ok (.getfield 21, 3) := by decide +kernel
theorem dX2_isName_12 : decode cX2_isName 12 = .ok (.aload_n 0, 1) := by decide +kernel
theorem dX2_isName_13 : decode cX2_isName 13 = .ok (.getfield 18, 3) := by decide +kernel
theorem dX2_isName_16 : decode cX2_isName 16 = .ok (.isub, 1) := by decide +kernel
theorem dX2_isName_17 : decode cX2_isName 17 = .ok (.aload_n 1, 1) := by decide +kernel
theorem dX2_isName_18 : decode cX2_isName 18 = .ok (.invokevirtual 90, 3) := by decide +kernel
theorem dX2_isName_21 : decode cX2_isName 21 = .ok (.if_icmp .eq 5, 3) := by decide +kernel
theorem dX2_isName_24 : decode cX2_isName 24 = .ok (.iconst 0, 1) := by decide +kernel
theorem dX2_isName_25 : decode cX2_isName 25 = .ok (.ireturn, 1) := by decide +kernel
theorem dX2_isName_26 : decode cX2_isName 26 = .ok (.iconst 0, 1) := by decide +kernel
theorem dX2_isName_27 : decode cX2_isName 27 = .ok (.istore_n 2, 1) := by decide +kernel
theorem dX2_isName_28 : decode cX2_isName 28 = .ok (.iload_n 2, 1) := by decide +kernel
theorem dX2_isName_29 : decode cX2_isName 29 = .ok (.aload_n 1, 1) := by decide +kernel
theorem dX2_isName_30 : decode cX2_isName 30 = .ok (.invokevirtual 90, 3) := by decide +kernel
theorem dX2_isName_33 : decode cX2_isName 33 = .ok (.if_icmp .ge 30, 3) := by decide +kernel
theorem dX2_isName_36 : decode cX2_isName 36 = .ok (.aload_n 0, 1) := by decide +kernel
theorem dX2_isName_37 : decode cX2_isName 37 = .ok (.getfield 42, 3) := by decide +kernel
theorem dX2_isName_40 : decode cX2_isName 40 = .ok (.aload_n 0, 1) := by decide +kernel
theorem dX2_isName_41 : decode cX2_isName 41 = .ok (.getfield 18, 3) := by decide +kernel
theorem dX2_isName_44 : decode cX2_isName 44 = .ok (.iload_n 2, 1) := by decide +kernel
theorem dX2_isName_45 : decode cX2_isName 45 = .ok (.iadd, 1) := by decide +kernel
theorem dX2_isName_46 : decode cX2_isName 46 = .ok (.baload, 1) := by decide +kernel
theorem dX2_isName_47 : decode cX2_isName 47 = .ok (.aload_n 1, 1) := by decide +kernel
theorem dX2_isName_48 : decode cX2_isName 48 = .ok (.iload_n 2, 1) := by decide +kernel
theorem dX2_isName_49 : decode cX2_isName 49 = .ok (.invokevirtual 95, 3) := by decide +kernel
theorem dX2_isName_52 : decode cX2_isName 52 = .ok (.if_icmp .eq 5, 3) := by decide +kernel
theorem dX2_isName_55 : decode cX2_isName 55 = .ok (.iconst 0, 1) := by decide +kernel
theorem dX2_isName_56 : decode cX2_isName 56 = .ok (.ireturn, 1) := by decide +kernel
theorem dX2_isName_57 : decode cX2_isName 57 = .ok (.iinc 2 1, 3) := by decide +kernel
theorem dX2_isName_60 : decode cX2_isName 60 = .ok (.goto (-32), 3) := by decide +kernel
theorem dX2_isName_63 : decode cX2_isName 63 = .ok (.iconst 1, 1) := by decide +kernel
theorem dX2_isName_64 : decode cX2_isName 64 = .ok (.ireturn, 1) := by decide +kernel
theorem dX2_readLine_0 : decode cX2_readLine 0 = .ok (.aload_n 0, 1) := by decide +kernel
theorem dX2_readLine_1 : decode cX2_readLine 1 = .ok (.invokevirtual 99, 3) := by decide +kernel
theorem dX2_readLine_4 : decode cX2_readLine 4 = .ok (.istore_n 1, 1) := by decide +kernel
theorem dX2_readLine_5 : decode cX2_readLine 5 = .ok (.aload_n 0, 1) := by decide +kernel
theorem dX2_readLine_6 : decode cX2_readLine 6 = .ok (.getfield 27, 3) := by decide +kernel
theorem dX2_readLine_9 : decode cX2_readLine 9 = .ok (.iload_n 1, 1) := by decide +kernel
theorem dX2_readLine_10 : decode cX2_readLine 10 = .ok (.ishr, 1) := by decide +kernel
theorem dX2_readLine_11 : decode cX2_readLine 11 = .ok (.iconst 1, 1) := by decide +kernel
theorem dX2_readLine_12 : decode cX2_readLine 12 = .ok (.iand, 1) := by decide +kernel
theorem dX2_readLine_13 : decode cX2_readLine 13 = .ok (.iconst 1, 1) := by decide +kernel
theorem dX2_readLine_14 : decode cX2_readLine 14 = .ok (.if_icmp .ne 13, 3) := by decide +kernel
theorem dX2_readLine_17 : decode cX2_readLine 17 = .ok (.aload_n 0, 1) := by decide +kernel
theorem dX2_readLine_18 : decode cX2_readLine 18 = .ok (.iconst 4, 1) := by decide +kernel
theorem dX2_readLine_19 : decode cX2_readLine 19 = .ok (.aload_n 0, 1) := by decide +kernel
theorem dX2_readLine_20 : decode cX2_readLine 20 = .ok (.getfield 18, 3) := by decide +kernel
theorem dX2_readLine_23 : decode cX2_readLine 23 = .ok (.invokevirtual 74, 3) := by decide +kernel
theorem dX2_readLine_26 : decode cX2_readLine 26 = .ok (.ireturn, 1) := by decide +kernel
theorem dX2_readLine_27 : decode cX2_readLine 27 = .ok (.iload_n 1, 1) := by decide +kernel
theorem dX2_readLine_28 : decode cX2_readLine 28 = .ok (.iconst 3, 1) := by decide +kernel
theorem dX2_readLine_29 : decode cX2_readLine 29 = .ok (.if_icmp .lt 15, 3) := by decide +kernel
theorem dX2_readLine_32 : decode cX2_readLine 32 = .ok (.aload_n 0, 1) := by decide +kernel
theorem dX2_readLine_33 : decode cX2_readLine 33 = .ok (.dup, 1) := by decide +kernel
theorem dX2_readLine_34 : decode cX2_readLine 34 = .ok (.getfield 27, 3) := by decide +kernel
theorem dX2_readLine_37 : decode cX2_readLine 37 = .ok (.iconst 1, 1) := by decide +kernel
theorem dX2_readLine_38 : decode cX2_readLine 38 = .ok (.iload_n 1, 1) := by decide +kernel
theorem dX2_readLine_39 : decode cX2_readLine 39 = .ok (.ishl, 1) := by decide +kernel
theorem dX2_readLine_40 : decode cX2_readLine 40 = .ok (.ior, 1) := by decide +kernel
theorem dX2_readLine_41 : decode cX2_readLine 41 = .ok (.putfield 27, 3) := by decide +kernel
theorem dX2_readLine_44 : decode cX2_readLine 44 = .ok (.iload_n 1, 1) := by decide +kernel
theorem dX2_readLine_45 : decode cX2_readLine 45 = .ok (.tableswitch 207 0 7 #[47, 67, 87, 107, 127, 147, 167, 187], 47) := by decide +kernel
theorem dX2_readLine_92 : decode cX2_readLine 92 = .ok (.aload_n 0, 1) := by decide +kernel
theorem dX2_readLine_93 : decode cX2_readLine 93 = .ok (.invokevirtual 102, 3) := by decide +kernel
theorem dX2_readLine_96 : decode cX2_readLine 96 = .ok (.ifCond .eq 14, 3) := by decide +kernel
theorem dX2_readLine_99 : decode cX2_readLine 99 = .ok (.aload_n 0, 1) := by decide +kernel
theorem dX2_readLine_100 : decode cX2_readLine 100 = .ok (.invokevirtual 105, 3) := by decide +kernel
theorem dX2_readLine_103 : decode cX2_readLine 103 = .ok (.ifCond .eq 7, 3) := by decide +kernel
theorem dX2_readLine_106 : decode cX2_readLine 106 = .ok (.iconst 1, 1) := by decide +kernel
theorem dX2_readLine_107 : decode cX2_readLine 107 = .ok (.goto 4, 3) := by decide +kernel
theorem dX2_readLine_110 : decode cX2_readLine 110 = .ok (.iconst 0, 1) := by decide +kernel
theorem dX2_readLine_111 : decode cX2_readLine 111 = .ok (.ireturn, 1) := by decide +kernel
theorem dX2_readLine_112 : decode cX2_readLine 112 = .ok (.aload_n 0, 1) := by decide +kernel
theorem dX2_readLine_113 : decode cX2_readLine 113 = .ok (.invokevirtual 108, 3) := by decide +kernel
theorem dX2_readLine_116 : decode cX2_readLine 116 = .ok (.ifCond .eq 14, 3) := by decide +kernel
theorem dX2_readLine_119 : decode cX2_readLine 119 = .ok (.aload_n 0, 1) := by decide +kernel
theorem dX2_readLine_120 : decode cX2_readLine 120 = .ok (.invokevirtual 105, 3) := by decide +kernel
theorem dX2_readLine_123 : decode cX2_readLine 123 = .ok (.ifCond .eq 7, 3) := by decide +kernel
theorem dX2_readLine_126 : decode cX2_readLine 126 = .ok (.iconst 1, 1) := by decide +kernel
theorem dX2_readLine_127 : decode cX2_readLine 127 = .ok (.goto 4, 3) := by decide +kernel
theorem dX2_readLine_130 : decode cX2_readLine 130 = .ok (.iconst 0, 1) := by decide +kernel
theorem dX2_readLine_131 : decode cX2_readLine 131 = .ok (.ireturn, 1) := by decide +kernel
theorem dX2_readLine_132 : decode cX2_readLine 132 = .ok (.aload_n 0, 1) := by decide +kernel
theorem dX2_readLine_133 : decode cX2_readLine 133 = .ok (.invokevirtual 111, 3) := by decide +kernel
theorem dX2_readLine_136 : decode cX2_readLine 136 = .ok (.ifCond .eq 14, 3) := by decide +kernel
theorem dX2_readLine_139 : decode cX2_readLine 139 = .ok (.aload_n 0, 1) := by decide +kernel
theorem dX2_readLine_140 : decode cX2_readLine 140 = .ok (.invokevirtual 105, 3) := by decide +kernel
theorem dX2_readLine_143 : decode cX2_readLine 143 = .ok (.ifCond .eq 7, 3) := by decide +kernel
theorem dX2_readLine_146 : decode cX2_readLine 146 = .ok (.iconst 1, 1) := by decide +kernel
theorem dX2_readLine_147 : decode cX2_readLine 147 = .ok (.goto 4, 3) := by decide +kernel
theorem dX2_readLine_150 : decode cX2_readLine 150 = .ok (.iconst 0, 1) := by decide +kernel
theorem dX2_readLine_151 : decode cX2_readLine 151 = .ok (.ireturn, 1) := by decide +kernel
theorem dX2_readLine_152 : decode cX2_readLine 152 = .ok (.aload_n 0, 1) := by decide +kernel
theorem dX2_readLine_153 : decode cX2_readLine 153 = .ok (.invokevirtual 114, 3) := by decide +kernel
theorem dX2_readLine_156 : decode cX2_readLine 156 = .ok (.ifCond .eq 14, 3) := by decide +kernel
theorem dX2_readLine_159 : decode cX2_readLine 159 = .ok (.aload_n 0, 1) := by decide +kernel
theorem dX2_readLine_160 : decode cX2_readLine 160 = .ok (.invokevirtual 105, 3) := by decide +kernel
theorem dX2_readLine_163 : decode cX2_readLine 163 = .ok (.ifCond .eq 7, 3) := by decide +kernel
theorem dX2_readLine_166 : decode cX2_readLine 166 = .ok (.iconst 1, 1) := by decide +kernel
theorem dX2_readLine_167 : decode cX2_readLine 167 = .ok (.goto 4, 3) := by decide +kernel
theorem dX2_readLine_170 : decode cX2_readLine 170 = .ok (.iconst 0, 1) := by decide +kernel
theorem dX2_readLine_171 : decode cX2_readLine 171 = .ok (.ireturn, 1) := by decide +kernel
theorem dX2_readLine_172 : decode cX2_readLine 172 = .ok (.aload_n 0, 1) := by decide +kernel
theorem dX2_readLine_173 : decode cX2_readLine 173 = .ok (.invokevirtual 117, 3) := by decide +kernel
theorem dX2_readLine_176 : decode cX2_readLine 176 = .ok (.ifCond .eq 14, 3) := by decide +kernel
theorem dX2_readLine_179 : decode cX2_readLine 179 = .ok (.aload_n 0, 1) := by decide +kernel
theorem dX2_readLine_180 : decode cX2_readLine 180 = .ok (.invokevirtual 105, 3) := by decide +kernel
theorem dX2_readLine_183 : decode cX2_readLine 183 = .ok (.ifCond .eq 7, 3) := by decide +kernel
theorem dX2_readLine_186 : decode cX2_readLine 186 = .ok (.iconst 1, 1) := by decide +kernel
theorem dX2_readLine_187 : decode cX2_readLine 187 = .ok (.goto 4, 3) := by decide +kernel
theorem dX2_readLine_190 : decode cX2_readLine 190 = .ok (.iconst 0, 1) := by decide +kernel
theorem dX2_readLine_191 : decode cX2_readLine 191 = .ok (.ireturn, 1) := by decide +kernel
theorem dX2_readLine_192 : decode cX2_readLine 192 = .ok (.aload_n 0, 1) := by decide +kernel
theorem dX2_readLine_193 : decode cX2_readLine 193 = .ok (.invokevirtual 120, 3) := by decide +kernel
theorem dX2_readLine_196 : decode cX2_readLine 196 = .ok (.ifCond .eq 14, 3) := by decide +kernel
theorem dX2_readLine_199 : decode cX2_readLine 199 = .ok (.aload_n 0, 1) := by decide +kernel
theorem dX2_readLine_200 : decode cX2_readLine 200 = .ok (.invokevirtual 105, 3) := by decide +kernel
theorem dX2_readLine_203 : decode cX2_readLine 203 = .ok (.ifCond .eq 7, 3) := by decide +kernel
theorem dX2_readLine_206 : decode cX2_readLine 206 = .ok (.iconst 1, 1) := by decide +kernel
theorem dX2_readLine_207 : decode cX2_readLine 207 = .ok (.goto 4, 3) := by decide +kernel
theorem dX2_readLine_210 : decode cX2_readLine 210 = .ok (.iconst 0, 1) := by decide +kernel
theorem dX2_readLine_211 : decode cX2_readLine 211 = .ok (.ireturn, 1) := by decide +kernel
theorem dX2_readLine_212 : decode cX2_readLine 212 = .ok (.aload_n 0, 1) := by decide +kernel
theorem dX2_readLine_213 : decode cX2_readLine 213 = .ok (.invokevirtual 123, 3) := by decide +kernel
theorem dX2_readLine_216 : decode cX2_readLine 216 = .ok (.ifCond .eq 14, 3) := by decide +kernel
theorem dX2_readLine_219 : decode cX2_readLine 219 = .ok (.aload_n 0, 1) := by decide +kernel
theorem dX2_readLine_220 : decode cX2_readLine 220 = .ok (.invokevirtual 105, 3) := by decide +kernel
theorem dX2_readLine_223 : decode cX2_readLine 223 = .ok (.ifCond .eq 7, 3) := by decide +kernel
theorem dX2_readLine_226 : decode cX2_readLine 226 = .ok (.iconst 1, 1) := by decide +kernel
theorem dX2_readLine_227 : decode cX2_readLine 227 = .ok (.goto 4, 3) := by decide +kernel
theorem dX2_readLine_230 : decode cX2_readLine 230 = .ok (.iconst 0, 1) := by decide +kernel
theorem dX2_readLine_231 : decode cX2_readLine 231 = .ok (.ireturn, 1) := by decide +kernel
theorem dX2_readLine_232 : decode cX2_readLine 232 = .ok (.aload_n 0, 1) := by decide +kernel
theorem dX2_readLine_233 : decode cX2_readLine 233 = .ok (.invokevirtual 126, 3) := by decide +kernel
theorem dX2_readLine_236 : decode cX2_readLine 236 = .ok (.ifCond .eq 14, 3) := by decide +kernel
theorem dX2_readLine_239 : decode cX2_readLine 239 = .ok (.aload_n 0, 1) := by decide +kernel
theorem dX2_readLine_240 : decode cX2_readLine 240 = .ok (.invokevirtual 105, 3) := by decide +kernel
theorem dX2_readLine_243 : decode cX2_readLine 243 = .ok (.ifCond .eq 7, 3) := by decide +kernel
theorem dX2_readLine_246 : decode cX2_readLine 246 = .ok (.iconst 1, 1) := by decide +kernel
theorem dX2_readLine_247 : decode cX2_readLine 247 = .ok (.goto 4, 3) := by decide +kernel
theorem dX2_readLine_250 : decode cX2_readLine 250 = .ok (.iconst 0, 1) := by decide +kernel
theorem dX2_readLine_251 : decode cX2_readLine 251 = .ok (.ireturn, 1) := by decide +kernel
theorem dX2_readLine_252 : decode cX2_readLine 252 = .ok (.aload_n 0, 1) := by decide +kernel
theorem dX2_readLine_253 : decode cX2_readLine 253 = .ok (.iconst 2, 1) := by decide +kernel
theorem dX2_readLine_254 : decode cX2_readLine 254 = .ok (.aload_n 0, 1) := by decide +kernel
theorem dX2_readLine_255 : decode cX2_readLine 255 = .ok (.getfield 18, 3) := by decide +kernel
theorem dX2_readLine_258 : decode cX2_readLine 258 = .ok (.invokevirtual 74, 3) := by decide +kernel
theorem dX2_readLine_261 : decode cX2_readLine 261 = .ok (.ireturn, 1) := by decide +kernel
theorem dX2_lineByName_0 : decode cX2_lineByName 0 = .ok (.aload_n 0, 1) := by decide +kernel
theorem dX2_lineByName_1 : decode cX2_lineByName 1 = .ok (.ldc 129, 2) := by decide +kernel
theorem dX2_lineByName_3 : decode cX2_lineByName 3 = .ok (.invokevirtual 131, 3) := by decide +kernel
theorem dX2_lineByName_6 : decode cX2_lineByName 6 = .ok (.ifCond .eq 5, 3) := by decide +kernel
theorem dX2_lineByName_9 : decode cX2_lineByName 9 = .ok (.iconst 0, 1) := by decide +kernel
theorem dX2_lineByName_10 : decode cX2_lineByName 10 = .ok (.ireturn, 1) := by decide +kernel
theorem dX2_lineByName_11 : decode cX2_lineByName 11 = .ok (.aload_n 0, 1) := by decide +kernel
theorem dX2_lineByName_12 : decode cX2_lineByName 12 = .ok (.ldc 135, 2) := by decide +kernel
theorem dX2_lineByName_14 : decode cX2_lineByName 14 = .ok (.invokevirtual 131, 3) := by decide +kernel
theorem dX2_lineByName_17 : decode cX2_lineByName 17 = .ok (.ifCond .eq 5, 3) := by decide +kernel
theorem dX2_lineByName_20 : decode cX2_lineByName 20 = .ok (.iconst 1, 1) := by decide +kernel
theorem dX2_lineByName_21 : decode cX2_lineByName 21 = .ok (.ireturn, 1) := by decide +kernel
theorem dX2_lineByName_22 : decode cX2_lineByName 22 = .ok (.aload_n 0, 1) := by decide +kernel
theorem dX2_lineByName_23 : decode cX2_lineByName 23 = .ok (.ldc 137, 2) := by decide +kernel
theorem dX2_lineByName_25 : decode cX2_lineByName 25 = .ok (.invokevirtual 131, 3) := by decide +kernel
theorem dX2_lineByName_28 : decode cX2_lineByName 28 = .ok (.ifCond .eq 5, 3) := by decide +kernel
theorem dX2_lineByName_31 : decode cX2_lineByName 31 = .ok (.iconst 2, 1) := by decide +kernel
theorem dX2_lineByName_32 : decode cX2_lineByName 32 = .ok (.ireturn, 1) := by decide +kernel
theorem dX2_lineByName_33 : decode cX2_lineByName 33 = .ok (.aload_n 0, 1) := by decide +kernel
theorem dX2_lineByName_34 : decode cX2_lineByName 34 = .ok (.ldc 139, 2) := by decide +kernel
theorem dX2_lineByName_36 : decode cX2_lineByName 36 = .ok (.invokevirtual 131, 3) := by decide +kernel
theorem dX2_lineByName_39 : decode cX2_lineByName 39 = .ok (.ifCond .eq 5, 3) := by decide +kernel
theorem dX2_lineByName_42 : decode cX2_lineByName 42 = .ok (.iconst 3, 1) := by decide +kernel
theorem dX2_lineByName_43 : decode cX2_lineByName 43 = .ok (.ireturn, 1) := by decide +kernel
theorem dX2_lineByName_44 : decode cX2_lineByName 44 = .ok (.aload_n 0, 1) := by decide +kernel
theorem dX2_lineByName_45 : decode cX2_lineByName 45 = .ok (.ldc 141, 2) := by decide +kernel
theorem dX2_lineByName_47 : decode cX2_lineByName 47 = .ok (.invokevirtual 131, 3) := by decide +kernel
theorem dX2_lineByName_50 : decode cX2_lineByName 50 = .ok (.ifCond .eq 5, 3) := by decide +kernel
theorem dX2_lineByName_53 : decode cX2_lineByName 53 = .ok (.iconst 4, 1) := by decide +kernel
theorem dX2_lineByName_54 : decode cX2_lineByName 54 = .ok (.ireturn, 1) := by decide +kernel
theorem dX2_lineByName_55 : decode cX2_lineByName 55 = .ok (.aload_n 0, 1) := by decide +kernel
theorem dX2_lineByName_56 : decode cX2_lineByName 56 = .ok (.ldc 143, 2) := by decide +kernel
theorem dX2_lineByName_58 : decode cX2_lineByName 58 = .ok (.invokevirtual 131, 3) := by decide +kernel
theorem dX2_lineByName_61 : decode cX2_lineByName 61 = .ok (.ifCond .eq 5, 3) := by decide +kernel
theorem dX2_lineByName_64 : decode cX2_lineByName 64 = .ok (.iconst 5, 1) := by decide +kernel
theorem dX2_lineByName_65 : decode cX2_lineByName 65 = .ok (.ireturn, 1) := by decide +kernel
theorem dX2_lineByName_66 : decode cX2_lineByName 66 = .ok (.aload_n 0, 1) := by decide +kernel
theorem dX2_lineByName_67 : decode cX2_lineByName 67 = .ok (.ldc 145, 2) := by decide +kernel
theorem dX2_lineByName_69 : decode cX2_lineByName 69 = .ok (.invokevirtual 131, 3) := by decide +kernel
theorem dX2_lineByName_72 : decode cX2_lineByName 72 = .ok (.ifCond .eq 6, 3) := by decide +kernel
theorem dX2_lineByName_75 : decode cX2_lineByName 75 = .ok (.bipush 6, 2) := by decide +kernel
theorem dX2_lineByName_77 : decode cX2_lineByName 77 = .ok (.ireturn, 1) := by decide +kernel
theorem dX2_lineByName_78 : decode cX2_lineByName 78 = .ok (.aload_n 0, 1) := by decide +kernel
theorem dX2_lineByName_79 : decode cX2_lineByName 79 = .ok (.ldc 147, 2) := by decide +kernel
theorem dX2_lineByName_81 : decode cX2_lineByName 81 = .ok (.invokevirtual 131, 3) := by decide +kernel
theorem dX2_lineByName_84 : decode cX2_lineByName 84 = .ok (.ifCond .eq 6, 3) := by decide +kernel
theorem dX2_lineByName_87 : decode cX2_lineByName 87 = .ok (.bipush 7, 2) := by decide +kernel
theorem dX2_lineByName_89 : decode cX2_lineByName 89 = .ok (.ireturn, 1) := by decide +kernel
theorem dX2_lineByName_90 : decode cX2_lineByName 90 = .ok (.bipush 8, 2) := by decide +kernel
theorem dX2_lineByName_92 : decode cX2_lineByName 92 = .ok (.ireturn, 1) := by decide +kernel
theorem dX2_readStop_0 : decode cX2_readStop 0 = .ok (.aload_n 0, 1) := by decide +kernel
theorem dX2_readStop_1 : decode cX2_readStop 1 = .ok (.invokevirtual 61, 3) := by decide +kernel
theorem dX2_readStop_4 : decode cX2_readStop 4 = .ok (.ifCond .eq 27, 3) := by decide +kernel
theorem dX2_readStop_7 : decode cX2_readStop 7 = .ok (.aload_n 0, 1) := by decide +kernel
theorem dX2_readStop_8 : decode cX2_readStop 8 = .ok (.getfield 15, 3) := by decide +kernel
theorem dX2_readStop_11 : decode cX2_readStop 11 = .ok (.iconst 3, 1) := by decide +kernel
theorem dX2_readStop_12 : decode cX2_readStop 12 = .ok (.if_icmp .eq 15, 3) := by decide +kernel
theorem dX2_readStop_15 : decode cX2_readStop 15 = .ok (.aload_n 0, 1) := by decide +kernel
theorem dX2_readStop_16 : decode cX2_readStop 16 = .ok (.iconst 2, 1) := by decide +kernel
theorem dX2_readStop_17 : decode cX2_readStop 17 = .ok (.aload_n 0, 1) := by decide +kernel
theorem dX2_readStop_18 : decode cX2_readStop 18 = .ok (.getfield 18, 3) := by decide +kernel
theorem dX2_readStop_21 : decode cX2_readStop 21 = .ok (.invokevirtual 74, 3) := by decide +kernel
theorem dX2_readStop_24 : decode cX2_readStop 24 = .ok (.ifCond .eq 7, 3) := by decide +kernel
theorem dX2_readStop_27 : decode cX2_readStop 27 = .ok (.iconst 1, 1) := by decide +kernel
theorem dX2_readStop_28 : decode cX2_readStop 28 = .ok (.goto 4, 3) := by decide +kernel
theorem dX2_readStop_31 : decode cX2_readStop 31 = .ok (.iconst 0, 1) := by decide +kernel
theorem dX2_readStop_32 : decode cX2_readStop 32 = .ok (.ireturn, 1) := by decide +kernel
theorem dX2_readNumber_0 : decode cX2_readNumber 0 = .ok (.aload_n 0, 1) := by decide +kernel
theorem dX2_readNumber_1 : decode cX2_readNumber 1 = .ok (.invokevirtual 61, 3) := by decide +kernel
theorem dX2_readNumber_4 : decode cX2_readNumber 4 = .ok (.ifCond .ne 5, 3) := by decide +kernel
theorem dX2_readNumber_7 : decode cX2_readNumber 7 = .ok (.iconst 0, 1) := by decide +kernel
theorem dX2_readNumber_8 : decode cX2_readNumber 8 = .ok (.ireturn, 1) := by decide +kernel
theorem dX2_readNumber_9 : decode cX2_readNumber 9 = .ok (.aload_n 0, 1) := by decide +kernel
theorem dX2_readNumber_10 : decode cX2_readNumber 10 = .ok (.getfield 15, 3) := by decide +kernel
theorem dX2_readNumber_13 : decode cX2_readNumber 13 = .ok (.iconst 2, 1) := by decide +kernel
theorem dX2_readNumber_14 : decode cX2_readNumber 14 = .ok (.if_icmp .eq 13, 3) := by decide +kernel
theorem dX2_readNumber_17 : decode cX2_readNumber 17 = .ok (.aload_n 0, 1) := by decide +kernel
theorem dX2_readNumber_18 : decode cX2_readNumber 18 = .ok (.iconst 2, 1) := by decide +kernel
theorem dX2_readNumber_19 : decode cX2_readNumber 19 = .ok (.aload_n 0, 1) := by decide +kernel
theorem dX2_readNumber_20 : decode cX2_readNumber 20 = .ok (.getfield 18, 3) := by decide +kernel
theorem dX2_readNumber_23 : decode cX2_readNumber 23 = .ok (.invokevirtual 74, 3) := by decide +kernel
theorem dX2_readNumber_26 : decode cX2_readNumber 26 = .ok (.ireturn, 1) := by decide +kernel
theorem dX2_readNumber_27 : decode cX2_readNumber 27 = .ok (.aload_n 0, 1) := by decide +kernel
theorem dX2_readNumber_28 : decode cX2_readNumber 28 = .ok (.getfield 24, 3) := by decide +kernel
theorem dX2_readNumber_31 : decode cX2_readNumber 31 = .ok (.iload_n 1, 1) := by decide +kernel
theorem dX2_readNumber_32 : decode cX2_readNumber 32 = .ok (.iload_n 2, 1) := by decide +kernel
theorem dX2_readNumber_33 : decode cX2_readNumber 33 = .ok (.invokestatic 86, 3) := by decide +kernel
theorem dX2_readNumber_36 : decode cX2_readNumber 36 = .ok (.ifCond .ne 15, 3) := by decide +kernel
theorem dX2_readNumber_39 : decode cX2_readNumber 39 = .ok (.aload_n 0, 1) := by decide +kernel
theorem dX2_readNumber_40 : decode cX2_readNumber 40 = .ok (.iconst 3, 1) := by decide +kernel
theorem dX2_readNumber_41 : decode cX2_readNumber 41 = .ok (.aload_n 0, 1) := by decide +kernel
theorem dX2_readNumber_42 : decode cX2_readNumber 42 = .ok (.getfield 18, 3) := by decide +kernel
theorem dX2_readNumber_45 : decode cX2_readNumber 45 = .ok (.invokevirtual 74, 3) := by decide +kernel
theorem dX2_readNumber_48 : decode cX2_readNumber 48 = .ok (.ifCond .eq 7, 3) := by decide +kernel
theorem dX2_readNumber_51 : decode cX2_readNumber 51 = .ok (.iconst 1, 1) := by decide +kernel
theorem dX2_readNumber_52 : decode cX2_readNumber 52 = .ok (.goto 4, 3) := by decide +kernel
theorem dX2_readNumber_55 : decode cX2_readNumber 55 = .ok (.iconst 0, 1) := by decide +kernel
theorem dX2_readNumber_56 : decode cX2_readNumber 56 = .ok (.ireturn, 1) := by decide +kernel
theorem dX2_readOne_0 : decode cX2_readOne 0 = .ok (.aload_n 0, 1) := by decide +kernel
theorem dX2_readOne_1 : decode cX2_readOne 1 = .ok (.getfield 46, 3) := by decide +kernel
theorem dX2_readOne_4 : decode cX2_readOne 4 = .ok (.getfield 149, 3) := by decide +kernel
theorem dX2_readOne_7 : decode cX2_readOne 7 = .ok (.istore_n 1, 1) := by decide +kernel
theorem dX2_readOne_8 : decode cX2_readOne 8 = .ok (.iload_n 1, 1) := by decide +kernel
theorem dX2_readOne_9 : decode cX2_readOne 9 = .ok (.iconst 4, 1) := by decide +kernel
theorem dX2_readOne_10 : decode cX2_readOne 10 = .ok (.if_icmp .lt 13, 3) := by decide +kernel
theorem dX2_readOne_13 : decode cX2_readOne 13 = .ok (.aload_n 0, 1) := by decide +kernel
theorem dX2_readOne_14 : decode cX2_readOne 14 = .ok (.iconst 5, 1) := by decide +kernel
theorem dX2_readOne_15 : decode cX2_readOne 15 = .ok (.aload_n 0, 1) := by decide +kernel
theorem dX2_readOne_16 : decode cX2_readOne 16 = .ok (.getfield 18, 3) := by decide +kernel
theorem dX2_readOne_19 : decode cX2_readOne 19 = .ok (.invokevirtual 74, 3) := by decide +kernel
theorem dX2_readOne_22 : decode cX2_readOne 22 = .ok (.ireturn, 1) := by decide +kernel
theorem dX2_readOne_23 : decode cX2_readOne 23 = .ok (.aload_n 0, 1) := by decide +kernel
theorem dX2_readOne_24 : decode cX2_readOne 24 = .ok (.invokevirtual 61, 3) := by decide +kernel
theorem dX2_readOne_27 : decode cX2_readOne 27 = .ok (.ifCond .ne 5, 3) := by decide +kernel
theorem dX2_readOne_30 : decode cX2_readOne 30 = .ok (.iconst 0, 1) := by decide +kernel
theorem dX2_readOne_31 : decode cX2_readOne 31 = .ok (.ireturn, 1) := by decide +kernel
theorem dX2_readOne_32 : decode cX2_readOne 32 = .ok (.aload_n 0, 1) := by decide +kernel
theorem dX2_readOne_33 : decode cX2_readOne 33 = .ok (.invokevirtual 152, 3) := by decide +kernel
theorem dX2_readOne_36 : decode cX2_readOne 36 = .ok (.istore_n 2, 1) := by decide +kernel
theorem dX2_readOne_37 : decode cX2_readOne 37 = .ok (.iload_n 2, 1) := by decide +kernel
theorem dX2_readOne_38 : decode cX2_readOne 38 = .ok (.bipush (-4), 2) := by decide +kernel
theorem dX2_readOne_40 : decode cX2_readOne 40 = .ok (.if_icmp .ne 13, 3) := by decide +kernel
theorem dX2_readOne_43 : decode cX2_readOne 43 = .ok (.aload_n 0, 1) := by decide +kernel
theorem dX2_readOne_44 : decode cX2_readOne 44 = .ok (.iconst 2, 1) := by decide +kernel
theorem dX2_readOne_45 : decode cX2_readOne 45 = .ok (.aload_n 0, 1) := by decide +kernel
theorem dX2_readOne_46 : decode cX2_readOne 46 = .ok (.getfield 18, 3) := by decide +kernel
theorem dX2_readOne_49 : decode cX2_readOne 49 = .ok (.invokevirtual 74, 3) := by decide +kernel
theorem dX2_readOne_52 : decode cX2_readOne 52 = .ok (.ireturn, 1) := by decide +kernel
theorem dX2_readOne_53 : decode cX2_readOne 53 = .ok (.aload_n 0, 1) := by decide +kernel
theorem dX2_readOne_54 : decode cX2_readOne 54 = .ok (.getfield 46, 3) := by decide +kernel
theorem dX2_readOne_57 : decode cX2_readOne 57 = .ok (.getfield 155, 3) := by decide +kernel
theorem dX2_readOne_60 : decode cX2_readOne 60 = .ok (.iload_n 1, 1) := by decide +kernel
theorem dX2_readOne_61 : decode cX2_readOne 61 = .ok (.iload_n 2, 1) := by decide +kernel
theorem dX2_readOne_62 : decode cX2_readOne 62 = .ok (.iastore, 1) := by decide +kernel
theorem dX2_readOne_63 : decode cX2_readOne 63 = .ok (.aload_n 0, 1) := by decide +kernel
theorem dX2_readOne_64 : decode cX2_readOne 64 = .ok (.iconst 1, 1) := by decide +kernel
theorem dX2_readOne_65 : decode cX2_readOne 65 = .ok (.iconst 3, 1) := by decide +kernel
theorem dX2_readOne_66 : decode cX2_readOne 66 = .ok (.invokevirtual 159, 3) := by decide +kernel
theorem dX2_readOne_69 : decode cX2_readOne 69 = .ok (.ifCond .ne 5, 3) := by decide +kernel
theorem dX2_readOne_72 : decode cX2_readOne 72 = .ok (.iconst 0, 1) := by decide +kernel
theorem dX2_readOne_73 : decode cX2_readOne 73 = .ok (.ireturn, 1) := by decide +kernel
theorem dX2_readOne_74 : decode cX2_readOne 74 = .ok (.aload_n 0, 1) := by decide +kernel
theorem dX2_readOne_75 : decode cX2_readOne 75 = .ok (.getfield 46, 3) := by decide +kernel
theorem dX2_readOne_78 : decode cX2_readOne 78 = .ok (.getfield 162, 3) := by decide +kernel
theorem dX2_readOne_81 : decode cX2_readOne 81 = .ok (.iload_n 1, 1) := by decide +kernel
theorem dX2_readOne_82 : decode cX2_readOne 82 = .ok (.aload_n 0, 1) := by decide +kernel
theorem dX2_readOne_83 : decode cX2_readOne 83 = .ok (.getfield 24, 3) := by decide +kernel
theorem dX2_readOne_86 : decode cX2_readOne 86 = .ok (.iastore, 1) := by decide +kernel
theorem dX2_readOne_87 : decode cX2_readOne 87 = .ok (.aload_n 0, 1) := by decide +kernel
theorem dX2_readOne_88 : decode cX2_readOne 88 = .ok (.iconst 0, 1) := by decide +kernel
theorem dX2_readOne_89 : decode cX2_readOne 89 = .ok (.bipush 20, 2) := by decide +kernel
theorem dX2_readOne_91 : decode cX2_readOne 91 = .ok (.invokevirtual 159, 3) := by decide +kernel
theorem dX2_readOne_94 : decode cX2_readOne 94 = .ok (.ifCond .ne 5, 3) := by decide +kernel
theorem dX2_readOne_97 : decode cX2_readOne 97 = .ok (.iconst 0, 1) := by decide +kernel
theorem dX2_readOne_98 : decode cX2_readOne 98 = .ok (.ireturn, 1) := by decide +kernel
theorem dX2_readOne_99 : decode cX2_readOne 99 = .ok (.aload_n 0, 1) := by decide +kernel
theorem dX2_readOne_100 : decode cX2_readOne 100 = .ok (.getfield 46, 3) := by decide +kernel
theorem dX2_readOne_103 : decode cX2_readOne 103 = .ok (.getfield 165, 3) := by decide +kernel
theorem dX2_readOne_106 : decode cX2_readOne 106 = .ok (.iload_n 1, 1) := by decide +kernel
theorem dX2_readOne_107 : decode cX2_readOne 107 = .ok (.aload_n 0, 1) := by decide +kernel
theorem dX2_readOne_108 : decode cX2_readOne 108 = .ok (.getfield 24, 3) := by decide +kernel
theorem dX2_readOne_111 : decode cX2_readOne 111 = .ok (.iastore, 1) := by decide +kernel
theorem dX2_readOne_112 : decode cX2_readOne 112 = .ok (.aload_n 0, 1) := by decide +kernel
theorem dX2_readOne_113 : decode cX2_readOne 113 = .ok (.getfield 46, 3) := by decide +kernel
theorem dX2_readOne_116 : decode cX2_readOne 116 = .ok (.dup, 1) := by decide +kernel
theorem dX2_readOne_117 : decode cX2_readOne 117 = .ok (.getfield 149, 3) := by decide +kernel
theorem dX2_readOne_120 : decode cX2_readOne 120 = .ok (.iconst 1, 1) := by decide +kernel
theorem dX2_readOne_121 : decode cX2_readOne 121 = .ok (.iadd, 1) := by decide +kernel
theorem dX2_readOne_122 : decode cX2_readOne 122 = .ok (.putfield 149, 3) := by decide +kernel
theorem dX2_readOne_125 : decode cX2_readOne 125 = .ok (.iconst 1, 1) := by decide +kernel
theorem dX2_readOne_126 : decode cX2_readOne 126 = .ok (.ireturn, 1) := by decide +kernel
theorem dX2_kindByName_0 : decode cX2_kindByName 0 = .ok (.aload_n 0, 1) := by decide +kernel
theorem dX2_kindByName_1 : decode cX2_kindByName 1 = .ok (.ldc 168, 2) := by decide +kernel
theorem dX2_kindByName_3 : decode cX2_kindByName 3 = .ok (.invokevirtual 131, 3) := by decide +kernel
theorem dX2_kindByName_6 : decode cX2_kindByName 6 = .ok (.ifCond .eq 5, 3) := by decide +kernel
theorem dX2_kindByName_9 : decode cX2_kindByName 9 = .ok (.iconst 0, 1) := by decide +kernel
theorem dX2_kindByName_10 : decode cX2_kindByName 10 = .ok (.ireturn, 1) := by decide +kernel
theorem dX2_kindByName_11 : decode cX2_kindByName 11 = .ok (.aload_n 0, 1) := by decide +kernel
theorem dX2_kindByName_12 : decode cX2_kindByName 12 = .ok (.ldc 170, 2) := by decide +kernel
theorem dX2_kindByName_14 : decode cX2_kindByName 14 = .ok (.invokevirtual 131, 3) := by decide +kernel
theorem dX2_kindByName_17 : decode cX2_kindByName 17 = .ok (.ifCond .eq 5, 3) := by decide +kernel
theorem dX2_kindByName_20 : decode cX2_kindByName 20 = .ok (.iconst 1, 1) := by decide +kernel
theorem dX2_kindByName_21 : decode cX2_kindByName 21 = .ok (.ireturn, 1) := by decide +kernel
theorem dX2_kindByName_22 : decode cX2_kindByName 22 = .ok (.aload_n 0, 1) := by decide +kernel
theorem dX2_kindByName_23 : decode cX2_kindByName 23 = .ok (.ldc 172, 2) := by decide +kernel
theorem dX2_kindByName_25 : decode cX2_kindByName 25 = .ok (.invokevirtual 131, 3) := by decide +kernel
theorem dX2_kindByName_28 : decode cX2_kindByName 28 = .ok (.ifCond .eq 5, 3) := by decide +kernel
theorem dX2_kindByName_31 : decode cX2_kindByName 31 = .ok (.iconst 2, 1) := by decide +kernel
theorem dX2_kindByName_32 : decode cX2_kindByName 32 = .ok (.ireturn, 1) := by decide +kernel
theorem dX2_kindByName_33 : decode cX2_kindByName 33 = .ok (.aload_n 0, 1) := by decide +kernel
theorem dX2_kindByName_34 : decode cX2_kindByName 34 = .ok (.ldc 174, 2) := by decide +kernel
theorem dX2_kindByName_36 : decode cX2_kindByName 36 = .ok (.invokevirtual 131, 3) := by decide +kernel
theorem dX2_kindByName_39 : decode cX2_kindByName 39 = .ok (.ifCond .eq 5, 3) := by decide +kernel
theorem dX2_kindByName_42 : decode cX2_kindByName 42 = .ok (.iconst 3, 1) := by decide +kernel
theorem dX2_kindByName_43 : decode cX2_kindByName 43 = .ok (.ireturn, 1) := by decide +kernel
theorem dX2_kindByName_44 : decode cX2_kindByName 44 = .ok (.aload_n 0, 1) := by decide +kernel
theorem dX2_kindByName_45 : decode cX2_kindByName 45 = .ok (.ldc 176, 2) := by decide +kernel
theorem dX2_kindByName_47 : decode cX2_kindByName 47 = .ok (.invokevirtual 131, 3) := by decide +kernel
theorem dX2_kindByName_50 : decode cX2_kindByName 50 = .ok (.ifCond .eq 5, 3) := by decide +kernel
theorem dX2_kindByName_53 : decode cX2_kindByName 53 = .ok (.iconst 4, 1) := by decide +kernel
theorem dX2_kindByName_54 : decode cX2_kindByName 54 = .ok (.ireturn, 1) := by decide +kernel
theorem dX2_kindByName_55 : decode cX2_kindByName 55 = .ok (.bipush (-4), 2) := by decide +kernel
theorem dX2_kindByName_57 : decode cX2_kindByName 57 = .ok (.ireturn, 1) := by decide +kernel
theorem dX2_readWell_0 : decode cX2_readWell 0 = .ok (.aload_n 0, 1) := by decide +kernel
theorem dX2_readWell_1 : decode cX2_readWell 1 = .ok (.getfield 46, 3) := by decide +kernel
theorem dX2_readWell_4 : decode cX2_readWell 4 = .ok (.getfield 71, 3) := by decide +kernel
theorem dX2_readWell_7 : decode cX2_readWell 7 = .ok (.istore_n 1, 1) := by decide +kernel
theorem dX2_readWell_8 : decode cX2_readWell 8 = .ok (.iload_n 1, 1) := by decide +kernel
theorem dX2_readWell_9 : decode cX2_readWell 9 = .ok (.iconst 3, 1) := by decide +kernel
theorem dX2_readWell_10 : decode cX2_readWell 10 = .ok (.if_icmp .lt 13, 3) := by decide +kernel
theorem dX2_readWell_13 : decode cX2_readWell 13 = .ok (.aload_n 0, 1) := by decide +kernel
theorem dX2_readWell_14 : decode cX2_readWell 14 = .ok (.iconst 5, 1) := by decide +kernel
theorem dX2_readWell_15 : decode cX2_readWell 15 = .ok (.aload_n 0, 1) := by decide +kernel
theorem dX2_readWell_16 : decode cX2_readWell 16 = .ok (.getfield 18, 3) := by decide +kernel
theorem dX2_readWell_19 : decode cX2_readWell 19 = .ok (.invokevirtual 74, 3) := by decide +kernel
theorem dX2_readWell_22 : decode cX2_readWell 22 = .ok (.ireturn, 1) := by decide +kernel
theorem dX2_readWell_23 : decode cX2_readWell 23 = .ok (.aload_n 0, 1) := by decide +kernel
theorem dX2_readWell_24 : decode cX2_readWell 24 = .ok (.iconst 1, 1) := by decide +kernel
theorem dX2_readWell_25 : decode cX2_readWell 25 = .ok (.bipush 60, 2) := by decide +kernel
theorem dX2_readWell_27 : decode cX2_readWell 27 = .ok (.invokevirtual 159, 3) := by decide +kernel
theorem dX2_readWell_30 : decode cX2_readWell 30 = .ok (.ifCond .ne 5, 3) := by decide +kernel
theorem dX2_readWell_33 : decode cX2_readWell 33 = .ok (.iconst 0, 1) := by decide +kernel
theorem dX2_readWell_34 : decode cX2_readWell 34 = .ok (.ireturn, 1) := by decide +kernel
theorem dX2_readWell_35 : decode cX2_readWell 35 = .ok (.aload_n 0, 1) := by decide +kernel
theorem dX2_readWell_36 : decode cX2_readWell 36 = .ok (.getfield 46, 3) := by decide +kernel
theorem dX2_readWell_39 : decode cX2_readWell 39 = .ok (.getfield 178, 3) := by decide +kernel
theorem dX2_readWell_42 : decode cX2_readWell 42 = .ok (.iload_n 1, 1) := by decide +kernel
theorem dX2_readWell_43 : decode cX2_readWell 43 = .ok (.aload_n 0, 1) := by decide +kernel
theorem dX2_readWell_44 : decode cX2_readWell 44 = .ok (.getfield 24, 3) := by decide +kernel
theorem dX2_readWell_47 : decode cX2_readWell 47 = .ok (.iastore, 1) := by decide +kernel
theorem dX2_readWell_48 : decode cX2_readWell 48 = .ok (.aload_n 0, 1) := by decide +kernel
theorem dX2_readWell_49 : decode cX2_readWell 49 = .ok (.iconst 0, 1) := by decide +kernel
theorem dX2_readWell_50 : decode cX2_readWell 50 = .ok (.bipush 10, 2) := by decide +kernel
theorem dX2_readWell_52 : decode cX2_readWell 52 = .ok (.invokevirtual 159, 3) := by decide +kernel
theorem dX2_readWell_55 : decode cX2_readWell 55 = .ok (.ifCond .ne 5, 3) := by decide +kernel
theorem dX2_readWell_58 : decode cX2_readWell 58 = .ok (.iconst 0, 1) := by decide +kernel
theorem dX2_readWell_59 : decode cX2_readWell 59 = .ok (.ireturn, 1) := by decide +kernel
theorem dX2_readWell_60 : decode cX2_readWell 60 = .ok (.aload_n 0, 1) := by decide +kernel
theorem dX2_readWell_61 : decode cX2_readWell 61 = .ok (.getfield 46, 3) := by decide +kernel
theorem dX2_readWell_64 : decode cX2_readWell 64 = .ok (.getfield 181, 3) := by decide +kernel
theorem dX2_readWell_67 : decode cX2_readWell 67 = .ok (.iload_n 1, 1) := by decide +kernel
theorem dX2_readWell_68 : decode cX2_readWell 68 = .ok (.aload_n 0, 1) := by decide +kernel
theorem dX2_readWell_69 : decode cX2_readWell 69 = .ok (.getfield 24, 3) := by decide +kernel
theorem dX2_readWell_72 : decode cX2_readWell 72 = .ok (.iastore, 1) := by decide +kernel
theorem dX2_readWell_73 : decode cX2_readWell 73 = .ok (.aload_n 0, 1) := by decide +kernel
theorem dX2_readWell_74 : decode cX2_readWell 74 = .ok (.iconst 1, 1) := by decide +kernel
theorem dX2_readWell_75 : decode cX2_readWell 75 = .ok (.bipush 20, 2) := by decide +kernel
theorem dX2_readWell_77 : decode cX2_readWell 77 = .ok (.invokevirtual 159, 3) := by decide +kernel
theorem dX2_readWell_80 : decode cX2_readWell 80 = .ok (.ifCond .ne 5, 3) := by decide +kernel
theorem dX2_readWell_83 : decode cX2_readWell 83 = .ok (.iconst 0, 1) := by decide +kernel
theorem dX2_readWell_84 : decode cX2_readWell 84 = .ok (.ireturn, 1) := by decide +kernel
theorem dX2_readWell_85 : decode cX2_readWell 85 = .ok (.aload_n 0, 1) := by decide +kernel
theorem dX2_readWell_86 : decode cX2_readWell 86 = .ok (.getfield 46, 3) := by decide +kernel
theorem dX2_readWell_89 : decode cX2_readWell 89 = .ok (.getfield 184, 3) := by decide +kernel
theorem dX2_readWell_92 : decode cX2_readWell 92 = .ok (.iload_n 1, 1) := by decide +kernel
theorem dX2_readWell_93 : decode cX2_readWell 93 = .ok (.aload_n 0, 1) := by decide +kernel
theorem dX2_readWell_94 : decode cX2_readWell 94 = .ok (.getfield 24, 3) := by decide +kernel
theorem dX2_readWell_97 : decode cX2_readWell 97 = .ok (.iastore, 1) := by decide +kernel
theorem dX2_readWell_98 : decode cX2_readWell 98 = .ok (.aload_n 0, 1) := by decide +kernel
theorem dX2_readWell_99 : decode cX2_readWell 99 = .ok (.getfield 46, 3) := by decide +kernel
theorem dX2_readWell_102 : decode cX2_readWell 102 = .ok (.getfield 78, 3) := by decide +kernel
theorem dX2_readWell_105 : decode cX2_readWell 105 = .ok (.iload_n 1, 1) := by decide +kernel
theorem dX2_readWell_106 : decode cX2_readWell 106 = .ok (.iconst 1, 1) := by decide +kernel
theorem dX2_readWell_107 : decode cX2_readWell 107 = .ok (.bastore, 1) := by decide +kernel
theorem dX2_readWell_108 : decode cX2_readWell 108 = .ok (.aload_n 0, 1) := by decide +kernel
theorem dX2_readWell_109 : decode cX2_readWell 109 = .ok (.getfield 46, 3) := by decide +kernel
theorem dX2_readWell_112 : decode cX2_readWell 112 = .ok (.dup, 1) := by decide +kernel
theorem dX2_readWell_113 : decode cX2_readWell 113 = .ok (.getfield 71, 3) := by decide +kernel
theorem dX2_readWell_116 : decode cX2_readWell 116 = .ok (.iconst 1, 1) := by decide +kernel
theorem dX2_readWell_117 : decode cX2_readWell 117 = .ok (.iadd, 1) := by decide +kernel
theorem dX2_readWell_118 : decode cX2_readWell 118 = .ok (.putfield 71, 3) := by decide +kernel
theorem dX2_readWell_121 : decode cX2_readWell 121 = .ok (.iconst 1, 1) := by decide +kernel
theorem dX2_readWell_122 : decode cX2_readWell 122 = .ok (.ireturn, 1) := by decide +kernel
theorem dX2_readDry_0 : decode cX2_readDry 0 = .ok (.aload_n 0, 1) := by decide +kernel
theorem dX2_readDry_1 : decode cX2_readDry 1 = .ok (.iconst 0, 1) := by decide +kernel
theorem dX2_readDry_2 : decode cX2_readDry 2 = .ok (.iconst 2, 1) := by decide +kernel
theorem dX2_readDry_3 : decode cX2_readDry 3 = .ok (.invokevirtual 159, 3) := by decide +kernel
theorem dX2_readDry_6 : decode cX2_readDry 6 = .ok (.ifCond .ne 5, 3) := by decide +kernel
theorem dX2_readDry_9 : decode cX2_readDry 9 = .ok (.iconst 0, 1) := by decide +kernel
theorem dX2_readDry_10 : decode cX2_readDry 10 = .ok (.ireturn, 1) := by decide +kernel
theorem dX2_readDry_11 : decode cX2_readDry 11 = .ok (.aload_n 0, 1) := by decide +kernel
theorem dX2_readDry_12 : decode cX2_readDry 12 = .ok (.getfield 30, 3) := by decide +kernel
theorem dX2_readDry_15 : decode cX2_readDry 15 = .ok (.aload_n 0, 1) := by decide +kernel
theorem dX2_readDry_16 : decode cX2_readDry 16 = .ok (.getfield 24, 3) := by decide +kernel
theorem dX2_readDry_19 : decode cX2_readDry 19 = .ok (.ishr, 1) := by decide +kernel
theorem dX2_readDry_20 : decode cX2_readDry 20 = .ok (.iconst 1, 1) := by decide +kernel
theorem dX2_readDry_21 : decode cX2_readDry 21 = .ok (.iand, 1) := by decide +kernel
theorem dX2_readDry_22 : decode cX2_readDry 22 = .ok (.iconst 1, 1) := by decide +kernel
theorem dX2_readDry_23 : decode cX2_readDry 23 = .ok (.if_icmp .ne 13, 3) := by decide +kernel
theorem dX2_readDry_26 : decode cX2_readDry 26 = .ok (.aload_n 0, 1) := by decide +kernel
theorem dX2_readDry_27 : decode cX2_readDry 27 = .ok (.iconst 4, 1) := by decide +kernel
theorem dX2_readDry_28 : decode cX2_readDry 28 = .ok (.aload_n 0, 1) := by decide +kernel
theorem dX2_readDry_29 : decode cX2_readDry 29 = .ok (.getfield 18, 3) := by decide +kernel
theorem dX2_readDry_32 : decode cX2_readDry 32 = .ok (.invokevirtual 74, 3) := by decide +kernel
theorem dX2_readDry_35 : decode cX2_readDry 35 = .ok (.ireturn, 1) := by decide +kernel
theorem dX2_readDry_36 : decode cX2_readDry 36 = .ok (.aload_n 0, 1) := by decide +kernel
theorem dX2_readDry_37 : decode cX2_readDry 37 = .ok (.dup, 1) := by decide +kernel
theorem dX2_readDry_38 : decode cX2_readDry 38 = .ok (.getfield 30, 3) := by decide +kernel
theorem dX2_readDry_41 : decode cX2_readDry 41 = .ok (.iconst 1, 1) := by decide +kernel
theorem dX2_readDry_42 : decode cX2_readDry 42 = .ok (.aload_n 0, 1) := by decide +kernel
theorem dX2_readDry_43 : decode cX2_readDry 43 = .ok (.getfield 24, 3) := by decide +kernel
theorem dX2_readDry_46 : decode cX2_readDry 46 = .ok (.ishl, 1) := by decide +kernel
theorem dX2_readDry_47 : decode cX2_readDry 47 = .ok (.ior, 1) := by decide +kernel
theorem dX2_readDry_48 : decode cX2_readDry 48 = .ok (.putfield 30, 3) := by decide +kernel
theorem dX2_readDry_51 : decode cX2_readDry 51 = .ok (.iconst 1, 1) := by decide +kernel
theorem dX2_readDry_52 : decode cX2_readDry 52 = .ok (.ireturn, 1) := by decide +kernel
theorem dX2_readBottle_0 : decode cX2_readBottle 0 = .ok (.aload_n 0, 1) := by decide +kernel
theorem dX2_readBottle_1 : decode cX2_readBottle 1 = .ok (.iconst 0, 1) := by decide +kernel
theorem dX2_readBottle_2 : decode cX2_readBottle 2 = .ok (.bipush 60, 2) := by decide +kernel
theorem dX2_readBottle_4 : decode cX2_readBottle 4 = .ok (.invokevirtual 159, 3) := by decide +kernel
theorem dX2_readBottle_7 : decode cX2_readBottle 7 = .ok (.ifCond .ne 5, 3) := by decide +kernel
theorem dX2_readBottle_10 : decode cX2_readBottle 10 = .ok (.iconst 0, 1) := by decide +kernel
theorem dX2_readBottle_11 : decode cX2_readBottle 11 = .ok (.ireturn, 1) := by decide +kernel
theorem dX2_readBottle_12 : decode cX2_readBottle 12 = .ok (.aload_n 0, 1) := by decide +kernel
theorem dX2_readBottle_13 : decode cX2_readBottle 13 = .ok (.getfield 46, 3) := by decide +kernel
theorem dX2_readBottle_16 : decode cX2_readBottle 16 = .ok (.aload_n 0, 1) := by decide +kernel
theorem dX2_readBottle_17 : decode cX2_readBottle 17 = .ok (.getfield 24, 3) := by decide +kernel
theorem dX2_readBottle_20 : decode cX2_readBottle 20 = .ok (.putfield 187, 3) := by decide +kernel
theorem dX2_readBottle_23 : decode cX2_readBottle 23 = .ok (.iconst 1, 1) := by decide +kernel
theorem dX2_readBottle_24 : decode cX2_readBottle 24 = .ok (.ireturn, 1) := by decide +kernel
theorem dX2_readGoal_0 : decode cX2_readGoal 0 = .ok (.aload_n 0, 1) := by decide +kernel
theorem dX2_readGoal_1 : decode cX2_readGoal 1 = .ok (.iconst 0, 1) := by decide +kernel
theorem dX2_readGoal_2 : decode cX2_readGoal 2 = .ok (.bipush 60, 2) := by decide +kernel
theorem dX2_readGoal_4 : decode cX2_readGoal 4 = .ok (.invokevirtual 159, 3) := by decide +kernel
theorem dX2_readGoal_7 : decode cX2_readGoal 7 = .ok (.ifCond .ne 5, 3) := by decide +kernel
theorem dX2_readGoal_10 : decode cX2_readGoal 10 = .ok (.iconst 0, 1) := by decide +kernel
theorem dX2_readGoal_11 : decode cX2_readGoal 11 = .ok (.ireturn, 1) := by decide +kernel
theorem dX2_readGoal_12 : decode cX2_readGoal 12 = .ok (.aload_n 0, 1) := by decide +kernel
theorem dX2_readGoal_13 : decode cX2_readGoal 13 = .ok (.getfield 46, 3) := by decide +kernel
theorem dX2_readGoal_16 : decode cX2_readGoal 16 = .ok (.aload_n 0, 1) := by decide +kernel
theorem dX2_readGoal_17 : decode cX2_readGoal 17 = .ok (.getfield 24, 3) := by decide +kernel
theorem dX2_readGoal_20 : decode cX2_readGoal 20 = .ok (.putfield 189, 3) := by decide +kernel
theorem dX2_readGoal_23 : decode cX2_readGoal 23 = .ok (.aload_n 0, 1) := by decide +kernel
theorem dX2_readGoal_24 : decode cX2_readGoal 24 = .ok (.iconst 0, 1) := by decide +kernel
theorem dX2_readGoal_25 : decode cX2_readGoal 25 = .ok (.bipush 23, 2) := by decide +kernel
theorem dX2_readGoal_27 : decode cX2_readGoal 27 = .ok (.invokevirtual 159, 3) := by decide +kernel
theorem dX2_readGoal_30 : decode cX2_readGoal 30 = .ok (.ifCond .ne 5, 3) := by decide +kernel
theorem dX2_readGoal_33 : decode cX2_readGoal 33 = .ok (.iconst 0, 1) := by decide +kernel
theorem dX2_readGoal_34 : decode cX2_readGoal 34 = .ok (.ireturn, 1) := by decide +kernel
theorem dX2_readGoal_35 : decode cX2_readGoal 35 = .ok (.aload_n 0, 1) := by decide +kernel
theorem dX2_readGoal_36 : decode cX2_readGoal 36 = .ok (.getfield 46, 3) := by decide +kernel
theorem dX2_readGoal_39 : decode cX2_readGoal 39 = .ok (.aload_n 0, 1) := by decide +kernel
theorem dX2_readGoal_40 : decode cX2_readGoal 40 = .ok (.getfield 24, 3) := by decide +kernel
theorem dX2_readGoal_43 : decode cX2_readGoal 43 = .ok (.putfield 191, 3) := by decide +kernel
theorem dX2_readGoal_46 : decode cX2_readGoal 46 = .ok (.iconst 1, 1) := by decide +kernel
theorem dX2_readGoal_47 : decode cX2_readGoal 47 = .ok (.ireturn, 1) := by decide +kernel
theorem dX2_readPlan_0 : decode cX2_readPlan 0 = .ok (.aload_n 0, 1) := by decide +kernel
theorem dX2_readPlan_1 : decode cX2_readPlan 1 = .ok (.invokevirtual 61, 3) := by decide +kernel
theorem dX2_readPlan_4 : decode cX2_readPlan 4 = .ok (.ifCond .ne 5, 3) := by decide +kernel
theorem dX2_readPlan_7 : decode cX2_readPlan 7 = .ok (.iconst 0, 1) := by decide +kernel
theorem dX2_readPlan_8 : decode cX2_readPlan 8 = .ok (.ireturn, 1) := by decide +kernel
theorem dX2_readPlan_9 : decode cX2_readPlan 9 = .ok (.aload_n 0, 1) := by decide +kernel
theorem dX2_readPlan_10 : decode cX2_readPlan 10 = .ok (.invokevirtual 194, 3) := by decide +kernel
theorem dX2_readPlan_13 : decode cX2_readPlan 13 = .ok (.istore_n 1, 1) := by decide +kernel
theorem dX2_readPlan_14 : decode cX2_readPlan 14 = .ok (.iload_n 1, 1) := by decide +kernel
theorem dX2_readPlan_15 : decode cX2_readPlan 15 = .ok (.bipush (-4), 2) := by decide +kernel
theorem dX2_readPlan_17 : decode cX2_readPlan 17 = .ok (.if_icmp .ne 13, 3) := by decide +kernel
theorem dX2_readPlan_20 : decode cX2_readPlan 20 = .ok (.aload_n 0, 1) := by decide +kernel
theorem dX2_readPlan_21 : decode cX2_readPlan 21 = .ok (.iconst 2, 1) := by decide +kernel
theorem dX2_readPlan_22 : decode cX2_readPlan 22 = .ok (.aload_n 0, 1) := by decide +kernel
theorem dX2_readPlan_23 : decode cX2_readPlan 23 = .ok (.getfield 18, 3) := by decide +kernel
theorem dX2_readPlan_26 : decode cX2_readPlan 26 = .ok (.invokevirtual 74, 3) := by decide +kernel
theorem dX2_readPlan_29 : decode cX2_readPlan 29 = .ok (.ireturn, 1) := by decide +kernel
theorem dX2_readPlan_30 : decode cX2_readPlan 30 = .ok (.aload_n 0, 1) := by decide +kernel
theorem dX2_readPlan_31 : decode cX2_readPlan 31 = .ok (.getfield 46, 3) := by decide +kernel
theorem dX2_readPlan_34 : decode cX2_readPlan 34 = .ok (.iload_n 1, 1) := by decide +kernel
theorem dX2_readPlan_35 : decode cX2_readPlan 35 = .ok (.putfield 197, 3) := by decide +kernel
theorem dX2_readPlan_38 : decode cX2_readPlan 38 = .ok (.iconst 1, 1) := by decide +kernel
theorem dX2_readPlan_39 : decode cX2_readPlan 39 = .ok (.ireturn, 1) := by decide +kernel
theorem dX2_planByName_0 : decode cX2_planByName 0 = .ok (.aload_n 0, 1) := by decide +kernel
theorem dX2_planByName_1 : decode cX2_planByName 1 = .ok (.ldc 199, 2) := by decide +kernel
theorem dX2_planByName_3 : decode cX2_planByName 3 = .ok (.invokevirtual 131, 3) := by decide +kernel
theorem dX2_planByName_6 : decode cX2_planByName 6 = .ok (.ifCond .eq 5, 3) := by decide +kernel
theorem dX2_planByName_9 : decode cX2_planByName 9 = .ok (.iconst 0, 1) := by decide +kernel
theorem dX2_planByName_10 : decode cX2_planByName 10 = .ok (.ireturn, 1) := by decide +kernel
theorem dX2_planByName_11 : decode cX2_planByName 11 = .ok (.aload_n 0, 1) := by decide +kernel
theorem dX2_planByName_12 : decode cX2_planByName 12 = .ok (.ldc 201, 2) := by decide +kernel
theorem dX2_planByName_14 : decode cX2_planByName 14 = .ok (.invokevirtual 131, 3) := by decide +kernel
theorem dX2_planByName_17 : decode cX2_planByName 17 = .ok (.ifCond .eq 5, 3) := by decide +kernel
theorem dX2_planByName_20 : decode cX2_planByName 20 = .ok (.iconst 1, 1) := by decide +kernel
theorem dX2_planByName_21 : decode cX2_planByName 21 = .ok (.ireturn, 1) := by decide +kernel
theorem dX2_planByName_22 : decode cX2_planByName 22 = .ok (.aload_n 0, 1) := by decide +kernel
theorem dX2_planByName_23 : decode cX2_planByName 23 = .ok (.ldc 203, 2) := by decide +kernel
theorem dX2_planByName_25 : decode cX2_planByName 25 = .ok (.invokevirtual 131, 3) := by decide +kernel
theorem dX2_planByName_28 : decode cX2_planByName 28 = .ok (.ifCond .eq 5, 3) := by decide +kernel
theorem dX2_planByName_31 : decode cX2_planByName 31 = .ok (.iconst 2, 1) := by decide +kernel
theorem dX2_planByName_32 : decode cX2_planByName 32 = .ok (.ireturn, 1) := by decide +kernel
theorem dX2_planByName_33 : decode cX2_planByName 33 = .ok (.aload_n 0, 1) := by decide +kernel
theorem dX2_planByName_34 : decode cX2_planByName 34 = .ok (.ldc 205, 2) := by decide +kernel
theorem dX2_planByName_36 : decode cX2_planByName 36 = .ok (.invokevirtual 131, 3) := by decide +kernel
theorem dX2_planByName_39 : decode cX2_planByName 39 = .ok (.ifCond .eq 5, 3) := by decide +kernel
theorem dX2_planByName_42 : decode cX2_planByName 42 = .ok (.iconst 3, 1) := by decide +kernel
theorem dX2_planByName_43 : decode cX2_planByName 43 = .ok (.ireturn, 1) := by decide +kernel
theorem dX2_planByName_44 : decode cX2_planByName 44 = .ok (.bipush (-4), 2) := by decide +kernel
theorem dX2_planByName_46 : decode cX2_planByName 46 = .ok (.ireturn, 1) := by decide +kernel
theorem dX2_readDew_0 : decode cX2_readDew 0 = .ok (.aload_n 0, 1) := by decide +kernel
theorem dX2_readDew_1 : decode cX2_readDew 1 = .ok (.iconst 0, 1) := by decide +kernel
theorem dX2_readDew_2 : decode cX2_readDew 2 = .ok (.bipush 9, 2) := by decide +kernel
theorem dX2_readDew_4 : decode cX2_readDew 4 = .ok (.invokevirtual 159, 3) := by decide +kernel
theorem dX2_readDew_7 : decode cX2_readDew 7 = .ok (.ifCond .ne 5, 3) := by decide +kernel
theorem dX2_readDew_10 : decode cX2_readDew 10 = .ok (.iconst 0, 1) := by decide +kernel
theorem dX2_readDew_11 : decode cX2_readDew 11 = .ok (.ireturn, 1) := by decide +kernel
theorem dX2_readDew_12 : decode cX2_readDew 12 = .ok (.aload_n 0, 1) := by decide +kernel
theorem dX2_readDew_13 : decode cX2_readDew 13 = .ok (.getfield 46, 3) := by decide +kernel
theorem dX2_readDew_16 : decode cX2_readDew 16 = .ok (.aload_n 0, 1) := by decide +kernel
theorem dX2_readDew_17 : decode cX2_readDew 17 = .ok (.getfield 24, 3) := by decide +kernel
theorem dX2_readDew_20 : decode cX2_readDew 20 = .ok (.putfield 207, 3) := by decide +kernel
theorem dX2_readDew_23 : decode cX2_readDew 23 = .ok (.iconst 1, 1) := by decide +kernel
theorem dX2_readDew_24 : decode cX2_readDew 24 = .ok (.ireturn, 1) := by decide +kernel
theorem dX2_readFound_0 : decode cX2_readFound 0 = .ok (.aload_n 0, 1) := by decide +kernel
theorem dX2_readFound_1 : decode cX2_readFound 1 = .ok (.iconst 0, 1) := by decide +kernel
theorem dX2_readFound_2 : decode cX2_readFound 2 = .ok (.bipush 10, 2) := by decide +kernel
theorem dX2_readFound_4 : decode cX2_readFound 4 = .ok (.invokevirtual 159, 3) := by decide +kernel
theorem dX2_readFound_7 : decode cX2_readFound 7 = .ok (.ifCond .ne 5, 3) := by decide +kernel
theorem dX2_readFound_10 : decode cX2_readFound 10 = .ok (.iconst 0, 1) := by decide +kernel
theorem dX2_readFound_11 : decode cX2_readFound 11 = .ok (.ireturn, 1) := by decide +kernel
theorem dX2_readFound_12 : decode cX2_readFound 12 = .ok (.aload_n 0, 1) := by decide +kernel
theorem dX2_readFound_13 : decode cX2_readFound 13 = .ok (.getfield 46, 3) := by decide +kernel
theorem dX2_readFound_16 : decode cX2_readFound 16 = .ok (.aload_n 0, 1) := by decide +kernel
theorem dX2_readFound_17 : decode cX2_readFound 17 = .ok (.getfield 24, 3) := by decide +kernel
theorem dX2_readFound_20 : decode cX2_readFound 20 = .ok (.putfield 210, 3) := by decide +kernel
theorem dX2_readFound_23 : decode cX2_readFound 23 = .ok (.iconst 1, 1) := by decide +kernel
theorem dX2_readFound_24 : decode cX2_readFound 24 = .ok (.ireturn, 1) := by decide +kernel
