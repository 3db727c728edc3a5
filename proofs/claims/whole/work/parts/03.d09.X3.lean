theorem dX3_init_0 : decode cX3_init 0 = .ok (.aload_n 0, 1) := by decide +kernel
theorem dX3_init_1 : decode cX3_init 1 = .ok (.invokespecial 1, 3) := by decide +kernel
theorem dX3_init_4 : decode cX3_init 4 = .ok (.aload_n 0, 1) := by decide +kernel
theorem dX3_init_5 : decode cX3_init 5 = .ok (.sipush 160, 3) := by decide +kernel
theorem dX3_init_8 : decode cX3_init 8 = .ok (.newarray .byte, 2) := by decide +kernel
theorem dX3_init_10 : decode cX3_init 10 = .ok (.putfield 9, 3) := by decide +kernel
theorem dX3_init_13 : decode cX3_init 13 = .ok (.aload_n 0, 1) := by decide +kernel
theorem dX3_init_14 : decode cX3_init 14 = .ok (.iconst 0, 1) := by decide +kernel
theorem dX3_init_15 : decode cX3_init 15 = .ok (.putfield 13, 3) := by decide +kernel
theorem dX3_init_18 : decode cX3_init 18 = .ok (.aload_n 0, 1) := by decide +kernel
theorem dX3_init_19 : decode cX3_init 19 = .ok (.iconst 0, 1) := by decide +kernel
theorem dX3_init_20 : decode cX3_init 20 = .ok (.putfield 17, 3) := by decide +kernel
theorem dX3_init_23 : decode cX3_init 23 = .ok (.aload_n 0, 1) := by decide +kernel
theorem dX3_init_24 : decode cX3_init 24 = .ok (.new 20, 3) := by decide +kernel
theorem dX3_init_27 : decode cX3_init 27 = .ok (.dup, 1) := by decide +kernel
theorem dX3_init_28 : decode cX3_init 28 = .ok (.invokespecial 22, 3) := by decide +kernel
theorem dX3_init_31 : decode cX3_init 31 = .ok (.putfield 23, 3) := by decide +kernel
theorem dX3_init_34 : decode cX3_init 34 = .ok (.aload_n 0, 1) := by decide +kernel
theorem dX3_init_35 : decode cX3_init 35 = .ok (.new 20, 3) := by decide +kernel
theorem dX3_init_38 : decode cX3_init 38 = .ok (.dup, 1) := by decide +kernel
theorem dX3_init_39 : decode cX3_init 39 = .ok (.invokespecial 22, 3) := by decide +kernel
theorem dX3_init_42 : decode cX3_init 42 = .ok (.putfield 27, 3) := by decide +kernel
theorem dX3_init_45 : decode cX3_init 45 = .ok (.aload_n 0, 1) := by decide +kernel
theorem dX3_init_46 : decode cX3_init 46 = .ok (.new 20, 3) := by decide +kernel
theorem dX3_init_49 : decode cX3_init 49 = .ok (.dup, 1) := by decide +kernel
theorem dX3_init_50 : decode cX3_init 50 = .ok (.invokespecial 22, 3) := by decide +kernel
theorem dX3_init_53 : decode cX3_init 53 = .ok (.putfield 30, 3) := by decide +kernel
theorem dX3_init_56 : decode cX3_init 56 = .ok (.aload_n 0, 1) := by decide +kernel
theorem dX3_init_57 : decode cX3_init 57 = .ok (.new 33, 3) := by decide +kernel
theorem dX3_init_60 : decode cX3_init 60 = .ok (.dup, 1) := by decide +kernel
theorem dX3_init_61 : decode cX3_init 61 = .ok (.aload_n 0, 1) := by decide +kernel
theorem dX3_init_62 : decode cX3_init 62 = .ok (.getfield 9, 3) := by decide +kernel
theorem dX3_init_65 : decode cX3_init 65 = .ok (.aload_n 0, 1) := by decide +kernel
theorem dX3_init_66 : decode cX3_init 66 = .ok (.getfield 27, 3) := by decide +kernel
theorem dX3_init_69 : decode cX3_init 69 = .ok (.invokespecial 35, 3) := by decide +kernel
theorem dX3_init_72 : decode cX3_init 72 = .ok (.putfield 38, 3) := by decide +kernel
theorem dX3_init_75 : decode cX3_init 75 = .ok (.aload_n 0, 1) := by decide +kernel
theorem dX3_init_76 : decode cX3_init 76 = .ok (.iconst 2, 1) := by decide +kernel
theorem dX3_init_77 : decode cX3_init 77 = .ok (.anewarray 20, 3) := by decide +kernel
theorem dX3_init_80 : decode cX3_init 80 = .ok (.dup, 1) := by decide +kernel
theorem dX3_init_81 : decode cX3_init 81 = .ok (.iconst 0, 1) := by decide +kernel
theorem dX3_init_82 : decode cX3_init 82 = .ok (.new 20, 3) := by decide +kernel
theorem dX3_init_85 : decode cX3_init 85 = .ok (.dup, 1) := by decide +kernel
theorem dX3_init_86 : decode cX3_init 86 = .ok (.invokespecial 22, 3) := by decide +kernel
theorem dX3_init_89 : decode cX3_init 89 = .ok (.aastore, 1) := by decide +kernel
theorem dX3_init_90 : decode cX3_init 90 = .ok (.dup, 1) := by decide +kernel
theorem dX3_init_91 : decode cX3_init 91 = .ok (.iconst 1, 1) := by decide +kernel
theorem dX3_init_92 : decode cX3_init 92 = .ok (.new 20, 3) := by decide +kernel
theorem dX3_init_95 : decode cX3_init 95 = .ok (.dup, 1) := by decide +kernel
theorem dX3_init_96 : decode cX3_init 96 = .ok (.invokespecial 22, 3) := by decide +kernel
theorem dX3_init_99 : decode cX3_init 99 = .ok (.aastore, 1) := by decide +kernel
theorem dX3_init_100 : decode cX3_init 100 = .ok (.putfield 42, 3) := by decide +kernel
theorem dX3_init_103 : decode cX3_init 103 = .ok (.aload_n 0, 1) := by decide +kernel
theorem dX3_init_104 : decode cX3_init 104 = .ok (.iconst 2, 1) := by decide +kernel
theorem dX3_init_105 : decode cX3_init 105 = .ok (.newarray .boolean, 2) := by decide +kernel
theorem dX3_init_107 : decode cX3_init 107 = .ok (.putfield 46, 3) := by decide +kernel
theorem dX3_init_110 : decode cX3_init 110 = .ok (.aload_n 0, 1) := by decide +kernel
theorem dX3_init_111 : decode cX3_init 111 = .ok (.bipush 6, 2) := by decide +kernel
theorem dX3_init_113 : decode cX3_init 113 = .ok (.newarray .int, 2) := by decide +kernel
theorem dX3_init_115 : decode cX3_init 115 = .ok (.putfield 50, 3) := by decide +kernel
theorem dX3_init_118 : decode cX3_init 118 = .ok (.aload_n 0, 1) := by decide +kernel
theorem dX3_init_119 : decode cX3_init 119 = .ok (.bipush 6, 2) := by decide +kernel
theorem dX3_init_121 : decode cX3_init 121 = .ok (.newarray .int, 2) := by decide +kernel
theorem dX3_init_123 : decode cX3_init 123 = .ok (.putfield 54, 3) := by decide +kernel
theorem dX3_init_126 : decode cX3_init 126 = .ok (.aload_n 0, 1) := by decide +kernel
theorem dX3_init_127 : decode cX3_init 127 = .ok (.iconst 0, 1) := by decide +kernel
theorem dX3_init_128 : decode cX3_init 128 = .ok (.putfield 57, 3) := by decide +kernel
theorem dX3_init_131 : decode cX3_init 131 = .ok (.aload_n 0, 1) := by decide +kernel
theorem dX3_init_132 : decode cX3_init 132 = .ok (.iconst 4, 1) := by decide +kernel
theorem dX3_init_133 : decode cX3_init 133 = .ok (.anewarray 60, 3) := by decide +kernel
theorem dX3_init_136 : decode cX3_init 136 = .ok (.dup, 1) := by decide +kernel
theorem dX3_init_137 : decode cX3_init 137 = .ok (.iconst 0, 1) := by decide +kernel
theorem dX3_init_138 : decode cX3_init 138 = .ok (.new 60, 3) := by decide +kernel
theorem dX3_init_141 : decode cX3_init 141 = .ok (.dup, 1) := by decide +kernel
theorem dX3_init_142 : decode cX3_init 142 = .ok (.invokespecial 62, 3) := by decide +kernel
theorem dX3_init_145 : decode cX3_init 145 = .ok (.aastore, 1) := by decide +kernel
theorem dX3_init_146 : decode cX3_init 146 = .ok (.dup, 1) := by decide +kernel
theorem dX3_init_147 : decode cX3_init 147 = .ok (.iconst 1, 1) := by decide +kernel
theorem dX3_init_148 : decode cX3_init 148 = .ok (.new 60, 3) := by decide +kernel
theorem dX3_init_151 : decode cX3_init 151 = .ok (.dup, 1) := by decide +kernel
theorem dX3_init_152 : decode cX3_init 152 = .ok (.invokespecial 62, 3) := by decide +kernel
theorem dX3_init_155 : decode cX3_init 155 = .ok (.aastore, 1) := by decide +kernel
theorem dX3_init_156 : decode cX3_init 156 = .ok (.dup, 1) := by decide +kernel
theorem dX3_init_157 : decode cX3_init 157 = .ok (.iconst 2, 1) := by decide +kernel
theorem dX3_init_158 : decode cX3_init 158 = .ok (.new 60, 3) := by decide +kernel
theorem dX3_init_161 : decode cX3_init 161 = .ok (.dup, 1) := by decide +kernel
theorem dX3_init_162 : decode cX3_init 162 = .ok (.invokespecial 62, 3) := by decide +kernel
theorem dX3_init_165 : decode cX3_init 165 = .ok (.aastore, 1) := by decide +kernel
theorem dX3_init_166 : decode cX3_init 166 = .ok (.dup, 1) := by decide +kernel
theorem dX3_init_167 : decode cX3_init 167 = .ok (.iconst 3, 1) := by decide +kernel
theorem dX3_init_168 : decode cX3_init 168 = .ok (.new 60, 3) := by decide +kernel
theorem dX3_init_171 : decode cX3_init 171 = .ok (.dup, 1) := by decide +kernel
theorem dX3_init_172 : decode cX3_init 172 = .ok (.invokespecial 62, 3) := by decide +kernel
theorem dX3_init_175 : decode cX3_init 175 = .ok (.aastore, 1) := by decide +kernel
theorem dX3_init_176 : decode cX3_init 176 = .ok (.putfield 63, 3) := by decide +kernel
theorem dX3_init_179 : decode cX3_init 179 = .ok (.aload_n 0, 1) := by decide +kernel
theorem dX3_init_180 : decode cX3_init 180 = .ok (.iconst 0, 1) := by decide +kernel
theorem dX3_init_181 : decode cX3_init 181 = .ok (.putfield 67, 3) := by decide +kernel
theorem dX3_init_184 : decode cX3_init 184 = .ok (.return_, 1) := by decide +kernel
theorem dX3_feed_0 : decode cX3_feed 0 = .ok (.iload_n 1, 1) := by decide +kernel
theorem dX3_feed_1 : decode cX3_feed 1 = .ok (.iconst 0, 1) := by decide +kernel
theorem dX3_feed_2 : decode cX3_feed 2 = .ok (.bipush 127, 2) := by decide +kernel
theorem dX3_feed_4 : decode cX3_feed 4 = .ok (.invokestatic 70, 3) := by decide +kernel
theorem dX3_feed_7 : decode cX3_feed 7 = .ok (.ifCond .ne 5, 3) := by decide +kernel
theorem dX3_feed_10 : decode cX3_feed 10 = .ok (.iconst (-1), 1) := by decide +kernel
theorem dX3_feed_11 : decode cX3_feed 11 = .ok (.ireturn, 1) := by decide +kernel
theorem dX3_feed_12 : decode cX3_feed 12 = .ok (.aload_n 0, 1) := by decide +kernel
theorem dX3_feed_13 : decode cX3_feed 13 = .ok (.getfield 13, 3) := by decide +kernel
theorem dX3_feed_16 : decode cX3_feed 16 = .ok (.sipush 160, 3) := by decide +kernel
theorem dX3_feed_19 : decode cX3_feed 19 = .ok (.if_icmp .lt 6, 3) := by decide +kernel
theorem dX3_feed_22 : decode cX3_feed 22 = .ok (.bipush (-3), 2) := by decide +kernel
theorem dX3_feed_24 : decode cX3_feed 24 = .ok (.ireturn, 1) := by decide +kernel
theorem dX3_feed_25 : decode cX3_feed 25 = .ok (.aload_n 0, 1) := by decide +kernel
theorem dX3_feed_26 : decode cX3_feed 26 = .ok (.getfield 9, 3) := by decide +kernel
theorem dX3_feed_29 : decode cX3_feed 29 = .ok (.aload_n 0, 1) := by decide +kernel
theorem dX3_feed_30 : decode cX3_feed 30 = .ok (.getfield 13, 3) := by decide +kernel
theorem dX3_feed_33 : decode cX3_feed 33 = .ok (.iload_n 1, 1) := by decide +kernel
theorem dX3_feed_34 : decode cX3_feed 34 = .ok (.i2b, 1) := by decide +kernel
theorem dX3_feed_35 : decode cX3_feed 35 = .ok (.bastore, 1) := by decide +kernel
theorem dX3_feed_36 : decode cX3_feed 36 = .ok (.aload_n 0, 1) := by decide +kernel
theorem dX3_feed_37 : decode cX3_feed 37 = .ok (.dup, 1) := by decide +kernel
theorem dX3_feed_38 : decode cX3_feed 38 = .ok (.getfield 13, 3) := by decide +kernel
theorem dX3_feed_41 : decode cX3_feed 41 = .ok (.iconst 1, 1) := by decide +kernel
theorem dX3_feed_42 : decode cX3_feed 42 = .ok (.iadd, 1) := by decide +kernel
theorem dX3_feed_43 : decode cX3_feed 43 = .ok (.putfield 13, 3) := by decide +kernel
theorem dX3_feed_46 : decode cX3_feed 46 = .ok (.aload_n 0, 1) := by decide +kernel
theorem dX3_feed_47 : decode cX3_feed 47 = .ok (.getfield 13, 3) := by decide +kernel
theorem dX3_feed_50 : decode cX3_feed 50 = .ok (.ireturn, 1) := by decide +kernel
theorem dX3_end_0 : decode cX3_end 0 = .ok (.iload_n 1, 1) := by decide +kernel
theorem dX3_end_1 : decode cX3_end 1 = .ok (.iconst 0, 1) := by decide +kernel
theorem dX3_end_2 : decode cX3_end 2 = .ok (.aload_n 0, 1) := by decide +kernel
theorem dX3_end_3 : decode cX3_end 3 = .ok (.getfield 13, 3) := by decide +kernel
theorem dX3_end_6 : decode cX3_end 6 = .ok (.invokestatic 70, 3) := by decide +kernel
theorem dX3_end_9 : decode cX3_end 9 = .ok (.ifCond .ne 5, 3) := by decide +kernel
theorem dX3_end_12 : decode cX3_end 12 = .ok (.iconst (-1), 1) := by decide +kernel
theorem dX3_end_13 : decode cX3_end 13 = .ok (.ireturn, 1) := by decide +kernel
theorem dX3_end_14 : decode cX3_end 14 = .ok (.aload_n 0, 1) := by decide +kernel
theorem dX3_end_15 : decode cX3_end 15 = .ok (.getfield 13, 3) := by decide +kernel
theorem dX3_end_18 : decode cX3_end 18 = .ok (.istore_n 2, 1) := by decide +kernel
theorem dX3_end_19 : decode cX3_end 19 = .ok (.aload_n 0, 1) := by decide +kernel
theorem dX3_end_20 : decode cX3_end 20 = .ok (.iload_n 1, 1) := by decide +kernel
theorem dX3_end_21 : decode cX3_end 21 = .ok (.putfield 13, 3) := by decide +kernel
theorem dX3_end_24 : decode cX3_end 24 = .ok (.iload_n 2, 1) := by decide +kernel
theorem dX3_end_25 : decode cX3_end 25 = .ok (.ireturn, 1) := by decide +kernel
theorem dX3_text_0 : decode cX3_text 0 = .ok (.aload_n 0, 1) := by decide +kernel
theorem dX3_text_1 : decode cX3_text 1 = .ok (.getfield 13, 3) := by decide +kernel
theorem dX3_text_4 : decode cX3_text 4 = .ok (.istore_n 1, 1) := by decide +kernel
theorem dX3_text_5 : decode cX3_text 5 = .ok (.aload_n 0, 1) := by decide +kernel
theorem dX3_text_6 : decode cX3_text 6 = .ok (.iconst 0, 1) := by decide +kernel
theorem dX3_text_7 : decode cX3_text 7 = .ok (.putfield 13, 3) := by decide +kernel
theorem dX3_text_10 : decode cX3_text 10 = .ok (.aload_n 0, 1) := by decide +kernel
theorem dX3_text_11 : decode cX3_text 11 = .ok (.getfield 38, 3) := by decide +kernel
theorem dX3_text_14 : decode cX3_text 14 = .ok (.iload_n 1, 1) := by decide +kernel
theorem dX3_text_15 : decode cX3_text 15 = .ok (.invokevirtual 74, 3) := by decide +kernel
theorem dX3_text_18 : decode cX3_text 18 = .ok (.aload_n 0, 1) := by decide +kernel
theorem dX3_text_19 : decode cX3_text 19 = .ok (.aload_n 0, 1) := by decide +kernel
theorem dX3_text_20 : decode cX3_text 20 = .ok (.getfield 38, 3) := by decide +kernel
theorem dX3_text_23 : decode cX3_text 23 = .ok (.getfield 78, 3) := by decide +kernel
theorem dX3_text_26 : decode cX3_text 26 = .ok (.putfield 17, 3) := by decide +kernel
theorem dX3_text_29 : decode cX3_text 29 = .ok (.aload_n 0, 1) := by decide +kernel
theorem dX3_text_30 : decode cX3_text 30 = .ok (.getfield 17, 3) := by decide +kernel
theorem dX3_text_33 : decode cX3_text 33 = .ok (.ifCond .eq 14, 3) := by decide +kernel
theorem dX3_text_36 : decode cX3_text 36 = .ok (.bipush (-10), 2) := by decide +kernel
theorem dX3_text_38 : decode cX3_text 38 = .ok (.aload_n 0, 1) := by decide +kernel
theorem dX3_text_39 : decode cX3_text 39 = .ok (.getfield 38, 3) := by decide +kernel
theorem dX3_text_42 : decode cX3_text 42 = .ok (.getfield 81, 3) := by decide +kernel
theorem dX3_text_45 : decode cX3_text 45 = .ok (.isub, 1) := by decide +kernel
theorem dX3_text_46 : decode cX3_text 46 = .ok (.ireturn, 1) := by decide +kernel
theorem dX3_text_47 : decode cX3_text 47 = .ok (.aload_n 0, 1) := by decide +kernel
theorem dX3_text_48 : decode cX3_text 48 = .ok (.getfield 23, 3) := by decide +kernel
theorem dX3_text_51 : decode cX3_text 51 = .ok (.aload_n 0, 1) := by decide +kernel
theorem dX3_text_52 : decode cX3_text 52 = .ok (.getfield 27, 3) := by decide +kernel
theorem dX3_text_55 : decode cX3_text 55 = .ok (.invokevirtual 84, 3) := by decide +kernel
theorem dX3_text_58 : decode cX3_text 58 = .ok (.aload_n 0, 1) := by decide +kernel
theorem dX3_text_59 : decode cX3_text 59 = .ok (.iconst 0, 1) := by decide +kernel
theorem dX3_text_60 : decode cX3_text 60 = .ok (.putfield 57, 3) := by decide +kernel
theorem dX3_text_63 : decode cX3_text 63 = .ok (.iconst 0, 1) := by decide +kernel
theorem dX3_text_64 : decode cX3_text 64 = .ok (.istore_n 2, 1) := by decide +kernel
theorem dX3_text_65 : decode cX3_text 65 = .ok (.iload_n 2, 1) := by decide +kernel
theorem dX3_text_66 : decode cX3_text 66 = .ok (.iconst 2, 1) := by decide +kernel
theorem dX3_text_67 : decode cX3_text 67 = .ok (.if_icmp .ge 16, 3) := by decide +kernel
theorem dX3_text_70 : decode cX3_text 70 = .ok (.aload_n 0, 1) := by decide +kernel
theorem dX3_text_71 : decode cX3_text 71 = .ok (.getfield 46, 3) := by decide +kernel
theorem dX3_text_74 : decode cX3_text 74 = .ok (.iload_n 2, 1) := by decide +kernel
theorem dX3_text_75 : decode cX3_text 75 = .ok (.iconst 0, 1) := by decide +kernel
theorem dX3_text_76 : decode cX3_text 76 = .ok (.bastore, 1) := by decide +kernel
theorem dX3_text_77 : decode cX3_text 77 = .ok (.iinc 2 1, 3) := by decide +kernel
theorem dX3_text_80 : decode cX3_text 80 = .ok (.goto (-15), 3) := by decide +kernel
theorem dX3_text_83 : decode cX3_text 83 = .ok (.aload_n 0, 1) := by decide +kernel
theorem dX3_text_84 : decode cX3_text 84 = .ok (.getfield 38, 3) := by decide +kernel
theorem dX3_text_87 : decode cX3_text 87 = .ok (.getfield 88, 3) := by decide +kernel
theorem dX3_text_90 : decode cX3_text 90 = .ok (.ireturn, 1) := by decide +kernel
theorem dX3_fault_0 : decode cX3_fault 0 = .ok (.aload_n 0, 1) := by decide +kernel
theorem dX3_fault_1 : decode cX3_fault 1 = .ok (.getfield 17, 3) := by decide +kernel
theorem dX3_fault_4 : decode cX3_fault 4 = .ok (.ireturn, 1) := by decide +kernel
theorem dX3_rule_0 : decode cX3_rule 0 = .ok (.iload_n 1, 1) := by decide +kernel
theorem dX3_rule_1 : decode cX3_rule 1 = .ok (.tableswitch 123 0 8 #[51, 59, 67, 75, 83, 91, 99, 107, 115], 51) := by decide +kernel
theorem dX3_rule_52 : decode cX3_rule 52 = .ok (.aload_n 0, 1) := by decide +kernel
theorem dX3_rule_53 : decode cX3_rule 53 = .ok (.getfield 23, 3) := by decide +kernel
theorem dX3_rule_56 : decode cX3_rule 56 = .ok (.getfield 91, 3) := by decide +kernel
theorem dX3_rule_59 : decode cX3_rule 59 = .ok (.ireturn, 1) := by decide +kernel
theorem dX3_rule_60 : decode cX3_rule 60 = .ok (.aload_n 0, 1) := by decide +kernel
theorem dX3_rule_61 : decode cX3_rule 61 = .ok (.getfield 23, 3) := by decide +kernel
theorem dX3_rule_64 : decode cX3_rule 64 = .ok (.getfield 94, 3) := by decide +kernel
theorem dX3_rule_67 : decode cX3_rule 67 = .ok (.ireturn, 1) := by decide +kernel
theorem dX3_rule_68 : decode cX3_rule 68 = .ok (.aload_n 0, 1) := by decide +kernel
theorem dX3_rule_69 : decode cX3_rule 69 = .ok (.getfield 23, 3) := by decide +kernel
theorem dX3_rule_72 : decode cX3_rule 72 = .ok (.getfield 97, 3) := by decide +kernel
theorem dX3_rule_75 : decode cX3_rule 75 = .ok (.ireturn, 1) := by decide +kernel
theorem dX3_rule_76 : decode cX3_rule 76 = .ok (.aload_n 0, 1) := by decide +kernel
theorem dX3_rule_77 : decode cX3_rule 77 = .ok (.getfield 23, 3) := by decide +kernel
theorem dX3_rule_80 : decode cX3_rule 80 = .ok (.getfield 100, 3) := by decide +kernel
theorem dX3_rule_83 : decode cX3_rule 83 = .ok (.ireturn, 1) := by decide +kernel
theorem dX3_rule_84 : decode cX3_rule 84 = .ok (.aload_n 0, 1) := by decide +kernel
theorem dX3_rule_85 : decode cX3_rule 85 = .ok (.getfield 23, 3) := by decide +kernel
theorem dX3_rule_88 : decode cX3_rule 88 = .ok (.getfield 103, 3) := by decide +kernel
theorem dX3_rule_91 : decode cX3_rule 91 = .ok (.ireturn, 1) := by decide +kernel
theorem dX3_rule_92 : decode cX3_rule 92 = .ok (.aload_n 0, 1) := by decide +kernel
theorem dX3_rule_93 : decode cX3_rule 93 = .ok (.getfield 23, 3) := by decide +kernel
theorem dX3_rule_96 : decode cX3_rule 96 = .ok (.getfield 106, 3) := by decide +kernel
theorem dX3_rule_99 : decode cX3_rule 99 = .ok (.ireturn, 1) := by decide +kernel
theorem dX3_rule_100 : decode cX3_rule 100 = .ok (.aload_n 0, 1) := by decide +kernel
theorem dX3_rule_101 : decode cX3_rule 101 = .ok (.getfield 23, 3) := by decide +kernel
theorem dX3_rule_104 : decode cX3_rule 104 = .ok (.getfield 109, 3) := by decide +kernel
theorem dX3_rule_107 : decode cX3_rule 107 = .ok (.ireturn, 1) := by decide +kernel
theorem dX3_rule_108 : decode cX3_rule 108 = .ok (.aload_n 0, 1) := by decide +kernel
theorem dX3_rule_109 : decode cX3_rule 109 = .ok (.getfield 23, 3) := by decide +kernel
theorem dX3_rule_112 : decode cX3_rule 112 = .ok (.getfield 112, 3) := by decide +kernel
theorem dX3_rule_115 : decode cX3_rule 115 = .ok (.ireturn, 1) := by decide +kernel
theorem dX3_rule_116 : decode cX3_rule 116 = .ok (.aload_n 0, 1) := by decide +kernel
theorem dX3_rule_117 : decode cX3_rule 117 = .ok (.getfield 23, 3) := by decide +kernel
theorem dX3_rule_120 : decode cX3_rule 120 = .ok (.getfield 115, 3) := by decide +kernel
theorem dX3_rule_123 : decode cX3_rule 123 = .ok (.ireturn, 1) := by decide +kernel
theorem dX3_rule_124 : decode cX3_rule 124 = .ok (.iconst (-1), 1) := by decide +kernel
theorem dX3_rule_125 : decode cX3_rule 125 = .ok (.ireturn, 1) := by decide +kernel
theorem dX3_one_0 : decode cX3_one 0 = .ok (.aload_n 0, 1) := by decide +kernel
theorem dX3_one_1 : decode cX3_one 1 = .ok (.iload_n 1, 1) := by decide +kernel
theorem dX3_one_2 : decode cX3_one 2 = .ok (.invokevirtual 118, 3) := by decide +kernel
theorem dX3_one_5 : decode cX3_one 5 = .ok (.ifCond .ne 5, 3) := by decide +kernel
theorem dX3_one_8 : decode cX3_one 8 = .ok (.iconst (-1), 1) := by decide +kernel
theorem dX3_one_9 : decode cX3_one 9 = .ok (.ireturn, 1) := by decide +kernel
theorem dX3_one_10 : decode cX3_one 10 = .ok (.iload_n 2, 1) := by decide +kernel
theorem dX3_one_11 : decode cX3_one 11 = .ok (.tableswitch 68 0 3 #[29, 39, 49, 59], 29) := by decide +kernel
theorem dX3_one_40 : decode cX3_one 40 = .ok (.aload_n 0, 1) := by decide +kernel
theorem dX3_one_41 : decode cX3_one 41 = .ok (.getfield 23, 3) := by decide +kernel
theorem dX3_one_44 : decode cX3_one 44 = .ok (.getfield 122, 3) := by decide +kernel
theorem dX3_one_47 : decode cX3_one 47 = .ok (.iload_n 1, 1) := by decide +kernel
theorem dX3_one_48 : decode cX3_one 48 = .ok (.iaload, 1) := by decide +kernel
theorem dX3_one_49 : decode cX3_one 49 = .ok (.ireturn, 1) := by decide +kernel
theorem dX3_one_50 : decode cX3_one 50 = .ok (.aload_n 0, 1) := by decide +kernel
theorem dX3_one_51 : decode cX3_one 51 = .ok (.getfield 23, 3) := by decide +kernel
theorem dX3_one_54 : decode cX3_one 54 = .ok (.getfield 125, 3) := by decide +kernel
theorem dX3_one_57 : decode cX3_one 57 = .ok (.iload_n 1, 1) := by decide +kernel
theorem dX3_one_58 : decode cX3_one 58 = .ok (.iaload, 1) := by decide +kernel
theorem dX3_one_59 : decode cX3_one 59 = .ok (.ireturn, 1) := by decide +kernel
theorem dX3_one_60 : decode cX3_one 60 = .ok (.aload_n 0, 1) := by decide +kernel
theorem dX3_one_61 : decode cX3_one 61 = .ok (.getfield 23, 3) := by decide +kernel
theorem dX3_one_64 : decode cX3_one 64 = .ok (.getfield 128, 3) := by decide +kernel
theorem dX3_one_67 : decode cX3_one 67 = .ok (.iload_n 1, 1) := by decide +kernel
theorem dX3_one_68 : decode cX3_one 68 = .ok (.iaload, 1) := by decide +kernel
theorem dX3_one_69 : decode cX3_one 69 = .ok (.ireturn, 1) := by decide +kernel
theorem dX3_one_70 : decode cX3_one 70 = .ok (.aload_n 0, 1) := by decide +kernel
theorem dX3_one_71 : decode cX3_one 71 = .ok (.getfield 23, 3) := by decide +kernel
theorem dX3_one_74 : decode cX3_one 74 = .ok (.iload_n 1, 1) := by decide +kernel
theorem dX3_one_75 : decode cX3_one 75 = .ok (.invokevirtual 131, 3) := by decide +kernel
theorem dX3_one_78 : decode cX3_one 78 = .ok (.ireturn, 1) := by decide +kernel
theorem dX3_one_79 : decode cX3_one 79 = .ok (.iconst (-1), 1) := by decide +kernel
theorem dX3_one_80 : decode cX3_one 80 = .ok (.ireturn, 1) := by decide +kernel
theorem dX3_well_0 : decode cX3_well 0 = .ok (.aload_n 0, 1) := by decide +kernel
theorem dX3_well_1 : decode cX3_well 1 = .ok (.iload_n 1, 1) := by decide +kernel
theorem dX3_well_2 : decode cX3_well 2 = .ok (.invokevirtual 135, 3) := by decide +kernel
theorem dX3_well_5 : decode cX3_well 5 = .ok (.ifCond .ne 5, 3) := by decide +kernel
theorem dX3_well_8 : decode cX3_well 8 = .ok (.iconst (-1), 1) := by decide +kernel
theorem dX3_well_9 : decode cX3_well 9 = .ok (.ireturn, 1) := by decide +kernel
theorem dX3_well_10 : decode cX3_well 10 = .ok (.iload_n 2, 1) := by decide +kernel
theorem dX3_well_11 : decode cX3_well 11 = .ok (.tableswitch 72 0 3 #[29, 39, 49, 59], 29) := by decide +kernel
theorem dX3_well_40 : decode cX3_well 40 = .ok (.aload_n 0, 1) := by decide +kernel
theorem dX3_well_41 : decode cX3_well 41 = .ok (.getfield 23, 3) := by decide +kernel
theorem dX3_well_44 : decode cX3_well 44 = .ok (.getfield 138, 3) := by decide +kernel
theorem dX3_well_47 : decode cX3_well 47 = .ok (.iload_n 1, 1) := by decide +kernel
theorem dX3_well_48 : decode cX3_well 48 = .ok (.iaload, 1) := by decide +kernel
theorem dX3_well_49 : decode cX3_well 49 = .ok (.ireturn, 1) := by decide +kernel
theorem dX3_well_50 : decode cX3_well 50 = .ok (.aload_n 0, 1) := by decide +kernel
theorem dX3_well_51 : decode cX3_well 51 = .ok (.getfield 23, 3) := by decide +kernel
theorem dX3_well_54 : decode cX3_well 54 = .ok (.getfield 141, 3) := by decide +kernel
theorem dX3_well_57 : decode cX3_well 57 = .ok (.iload_n 1, 1) := by decide +kernel
theorem dX3_well_58 : decode cX3_well 58 = .ok (.iaload, 1) := by decide +kernel
theorem dX3_well_59 : decode cX3_well 59 = .ok (.ireturn, 1) := by decide +kernel
theorem dX3_well_60 : decode cX3_well 60 = .ok (.aload_n 0, 1) := by decide +kernel
theorem dX3_well_61 : decode cX3_well 61 = .ok (.getfield 23, 3) := by decide +kernel
theorem dX3_well_64 : decode cX3_well 64 = .ok (.getfield 144, 3) := by decide +kernel
theorem dX3_well_67 : decode cX3_well 67 = .ok (.iload_n 1, 1) := by decide +kernel
theorem dX3_well_68 : decode cX3_well 68 = .ok (.iaload, 1) := by decide +kernel
theorem dX3_well_69 : decode cX3_well 69 = .ok (.ireturn, 1) := by decide +kernel
theorem dX3_well_70 : decode cX3_well 70 = .ok (.aload_n 0, 1) := by decide +kernel
theorem dX3_well_71 : decode cX3_well 71 = .ok (.getfield 23, 3) := by decide +kernel
theorem dX3_well_74 : decode cX3_well 74 = .ok (.getfield 147, 3) := by decide +kernel
theorem dX3_well_77 : decode cX3_well 77 = .ok (.iload_n 1, 1) := by decide +kernel
theorem dX3_well_78 : decode cX3_well 78 = .ok (.baload, 1) := by decide +kernel
theorem dX3_well_79 : decode cX3_well 79 = .ok (.invokestatic 150, 3) := by decide +kernel
theorem dX3_well_82 : decode cX3_well 82 = .ok (.ireturn, 1) := by decide +kernel
theorem dX3_well_83 : decode cX3_well 83 = .ok (.iconst (-1), 1) := by decide +kernel
theorem dX3_well_84 : decode cX3_well 84 = .ok (.ireturn, 1) := by decide +kernel
theorem dX3_pours_0 : decode cX3_pours 0 = .ok (.aload_n 0, 1) := by decide +kernel
theorem dX3_pours_1 : decode cX3_pours 1 = .ok (.getfield 23, 3) := by decide +kernel
theorem dX3_pours_4 : decode cX3_pours 4 = .ok (.invokevirtual 154, 3) := by decide +kernel
theorem dX3_pours_7 : decode cX3_pours 7 = .ok (.ireturn, 1) := by decide +kernel
theorem dX3_loses_0 : decode cX3_loses 0 = .ok (.aload_n 0, 1) := by decide +kernel
theorem dX3_loses_1 : decode cX3_loses 1 = .ok (.iload_n 1, 1) := by decide +kernel
theorem dX3_loses_2 : decode cX3_loses 2 = .ok (.invokevirtual 118, 3) := by decide +kernel
theorem dX3_loses_5 : decode cX3_loses 5 = .ok (.ifCond .eq 15, 3) := by decide +kernel
theorem dX3_loses_8 : decode cX3_loses 8 = .ok (.aload_n 0, 1) := by decide +kernel
theorem dX3_loses_9 : decode cX3_loses 9 = .ok (.getfield 23, 3) := by decide +kernel
theorem dX3_loses_12 : decode cX3_loses 12 = .ok (.iload_n 1, 1) := by decide +kernel
theorem dX3_loses_13 : decode cX3_loses 13 = .ok (.iload_n 2, 1) := by decide +kernel
theorem dX3_loses_14 : decode cX3_loses 14 = .ok (.invokevirtual 158, 3) := by decide +kernel
theorem dX3_loses_17 : decode cX3_loses 17 = .ok (.goto 4, 3) := by decide +kernel
theorem dX3_loses_20 : decode cX3_loses 20 = .ok (.iconst (-1), 1) := by decide +kernel
theorem dX3_loses_21 : decode cX3_loses 21 = .ok (.ireturn, 1) := by decide +kernel
theorem dX3_teach_0 : decode cX3_teach 0 = .ok (.aload_n 0, 1) := by decide +kernel
theorem dX3_teach_1 : decode cX3_teach 1 = .ok (.iload_n 1, 1) := by decide +kernel
theorem dX3_teach_2 : decode cX3_teach 2 = .ok (.invokevirtual 118, 3) := by decide +kernel
theorem dX3_teach_5 : decode cX3_teach 5 = .ok (.ifCond .eq 10, 3) := by decide +kernel
theorem dX3_teach_8 : decode cX3_teach 8 = .ok (.iload_n 2, 1) := by decide +kernel
theorem dX3_teach_9 : decode cX3_teach 9 = .ok (.invokestatic 162, 3) := by decide +kernel
theorem dX3_teach_12 : decode cX3_teach 12 = .ok (.ifCond .ne 5, 3) := by decide +kernel
theorem dX3_teach_15 : decode cX3_teach 15 = .ok (.iconst (-1), 1) := by decide +kernel
theorem dX3_teach_16 : decode cX3_teach 16 = .ok (.ireturn, 1) := by decide +kernel
theorem dX3_teach_17 : decode cX3_teach 17 = .ok (.aload_n 0, 1) := by decide +kernel
theorem dX3_teach_18 : decode cX3_teach 18 = .ok (.getfield 23, 3) := by decide +kernel
theorem dX3_teach_21 : decode cX3_teach 21 = .ok (.getfield 122, 3) := by decide +kernel
theorem dX3_teach_24 : decode cX3_teach 24 = .ok (.iload_n 1, 1) := by decide +kernel
theorem dX3_teach_25 : decode cX3_teach 25 = .ok (.iaload, 1) := by decide +kernel
theorem dX3_teach_26 : decode cX3_teach 26 = .ok (.istore_n 3, 1) := by decide +kernel
theorem dX3_teach_27 : decode cX3_teach 27 = .ok (.aload_n 0, 1) := by decide +kernel
theorem dX3_teach_28 : decode cX3_teach 28 = .ok (.getfield 23, 3) := by decide +kernel
theorem dX3_teach_31 : decode cX3_teach 31 = .ok (.getfield 122, 3) := by decide +kernel
theorem dX3_teach_34 : decode cX3_teach 34 = .ok (.iload_n 1, 1) := by decide +kernel
theorem dX3_teach_35 : decode cX3_teach 35 = .ok (.iload_n 2, 1) := by decide +kernel
theorem dX3_teach_36 : decode cX3_teach 36 = .ok (.iastore, 1) := by decide +kernel
theorem dX3_teach_37 : decode cX3_teach 37 = .ok (.iload_n 3, 1) := by decide +kernel
theorem dX3_teach_38 : decode cX3_teach 38 = .ok (.ireturn, 1) := by decide +kernel
theorem dX3_drink_0 : decode cX3_drink 0 = .ok (.aload_n 0, 1) := by decide +kernel
theorem dX3_drink_1 : decode cX3_drink 1 = .ok (.getfield 23, 3) := by decide +kernel
theorem dX3_drink_4 : decode cX3_drink 4 = .ok (.iload_n 1, 1) := by decide +kernel
theorem dX3_drink_5 : decode cX3_drink 5 = .ok (.iload_n 2, 1) := by decide +kernel
theorem dX3_drink_6 : decode cX3_drink 6 = .ok (.invokevirtual 165, 3) := by decide +kernel
theorem dX3_drink_9 : decode cX3_drink 9 = .ok (.ireturn, 1) := by decide +kernel
theorem dX3_fill_0 : decode cX3_fill 0 = .ok (.iload_n 1, 1) := by decide +kernel
theorem dX3_fill_1 : decode cX3_fill 1 = .ok (.iconst 0, 1) := by decide +kernel
theorem dX3_fill_2 : decode cX3_fill 2 = .ok (.bipush 60, 2) := by decide +kernel
theorem dX3_fill_4 : decode cX3_fill 4 = .ok (.invokestatic 70, 3) := by decide +kernel
theorem dX3_fill_7 : decode cX3_fill 7 = .ok (.ifCond .ne 5, 3) := by decide +kernel
theorem dX3_fill_10 : decode cX3_fill 10 = .ok (.iconst (-1), 1) := by decide +kernel
theorem dX3_fill_11 : decode cX3_fill 11 = .ok (.ireturn, 1) := by decide +kernel
theorem dX3_fill_12 : decode cX3_fill 12 = .ok (.aload_n 0, 1) := by decide +kernel
theorem dX3_fill_13 : decode cX3_fill 13 = .ok (.getfield 23, 3) := by decide +kernel
theorem dX3_fill_16 : decode cX3_fill 16 = .ok (.getfield 106, 3) := by decide +kernel
theorem dX3_fill_19 : decode cX3_fill 19 = .ok (.istore_n 2, 1) := by decide +kernel
theorem dX3_fill_20 : decode cX3_fill 20 = .ok (.aload_n 0, 1) := by decide +kernel
theorem dX3_fill_21 : decode cX3_fill 21 = .ok (.getfield 23, 3) := by decide +kernel
theorem dX3_fill_24 : decode cX3_fill 24 = .ok (.iload_n 1, 1) := by decide +kernel
theorem dX3_fill_25 : decode cX3_fill 25 = .ok (.putfield 106, 3) := by decide +kernel
theorem dX3_fill_28 : decode cX3_fill 28 = .ok (.iload_n 2, 1) := by decide +kernel
theorem dX3_fill_29 : decode cX3_fill 29 = .ok (.ireturn, 1) := by decide +kernel
theorem dX3_plan_0 : decode cX3_plan 0 = .ok (.iload_n 1, 1) := by decide +kernel
theorem dX3_plan_1 : decode cX3_plan 1 = .ok (.invokestatic 169, 3) := by decide +kernel
theorem dX3_plan_4 : decode cX3_plan 4 = .ok (.ifCond .ne 5, 3) := by decide +kernel
theorem dX3_plan_7 : decode cX3_plan 7 = .ok (.iconst (-1), 1) := by decide +kernel
theorem dX3_plan_8 : decode cX3_plan 8 = .ok (.ireturn, 1) := by decide +kernel
theorem dX3_plan_9 : decode cX3_plan 9 = .ok (.aload_n 0, 1) := by decide +kernel
theorem dX3_plan_10 : decode cX3_plan 10 = .ok (.getfield 23, 3) := by decide +kernel
theorem dX3_plan_13 : decode cX3_plan 13 = .ok (.getfield 109, 3) := by decide +kernel
theorem dX3_plan_16 : decode cX3_plan 16 = .ok (.istore_n 2, 1) := by decide +kernel
theorem dX3_plan_17 : decode cX3_plan 17 = .ok (.aload_n 0, 1) := by decide +kernel
theorem dX3_plan_18 : decode cX3_plan 18 = .ok (.getfield 23, 3) := by decide +kernel
theorem dX3_plan_21 : decode cX3_plan 21 = .ok (.iload_n 1, 1) := by decide +kernel
theorem dX3_plan_22 : decode cX3_plan 22 = .ok (.putfield 109, 3) := by decide +kernel
theorem dX3_plan_25 : decode cX3_plan 25 = .ok (.iload_n 2, 1) := by decide +kernel
theorem dX3_plan_26 : decode cX3_plan 26 = .ok (.ireturn, 1) := by decide +kernel
theorem dX3_wet_0 : decode cX3_wet 0 = .ok (.aload_n 0, 1) := by decide +kernel
theorem dX3_wet_1 : decode cX3_wet 1 = .ok (.iload_n 1, 1) := by decide +kernel
theorem dX3_wet_2 : decode cX3_wet 2 = .ok (.invokevirtual 135, 3) := by decide +kernel
theorem dX3_wet_5 : decode cX3_wet 5 = .ok (.ifCond .ne 5, 3) := by decide +kernel
theorem dX3_wet_8 : decode cX3_wet 8 = .ok (.iconst (-1), 1) := by decide +kernel
theorem dX3_wet_9 : decode cX3_wet 9 = .ok (.ireturn, 1) := by decide +kernel
theorem dX3_wet_10 : decode cX3_wet 10 = .ok (.aload_n 0, 1) := by decide +kernel
theorem dX3_wet_11 : decode cX3_wet 11 = .ok (.getfield 23, 3) := by decide +kernel
theorem dX3_wet_14 : decode cX3_wet 14 = .ok (.getfield 147, 3) := by decide +kernel
theorem dX3_wet_17 : decode cX3_wet 17 = .ok (.iload_n 1, 1) := by decide +kernel
theorem dX3_wet_18 : decode cX3_wet 18 = .ok (.baload, 1) := by decide +kernel
theorem dX3_wet_19 : decode cX3_wet 19 = .ok (.istore_n 3, 1) := by decide +kernel
theorem dX3_wet_20 : decode cX3_wet 20 = .ok (.aload_n 0, 1) := by decide +kernel
theorem dX3_wet_21 : decode cX3_wet 21 = .ok (.getfield 23, 3) := by decide +kernel
theorem dX3_wet_24 : decode cX3_wet 24 = .ok (.getfield 147, 3) := by decide +kernel
theorem dX3_wet_27 : decode cX3_wet 27 = .ok (.iload_n 1, 1) := by decide +kernel
theorem dX3_wet_28 : decode cX3_wet 28 = .ok (.iload_n 2, 1) := by decide +kernel
theorem dX3_wet_29 : decode cX3_wet 29 = .ok (.bastore, 1) := by decide +kernel
theorem dX3_wet_30 : decode cX3_wet 30 = .ok (.iload_n 3, 1) := by decide +kernel
theorem dX3_wet_31 : decode cX3_wet 31 = .ok (.invokestatic 150, 3) := by decide +kernel
theorem dX3_wet_34 : decode cX3_wet 34 = .ok (.ireturn, 1) := by decide +kernel
theorem dX3_odd_0 : decode cX3_odd 0 = .ok (.aload_n 0, 1) := by decide +kernel
theorem dX3_odd_1 : decode cX3_odd 1 = .ok (.iload_n 1, 1) := by decide +kernel
theorem dX3_odd_2 : decode cX3_odd 2 = .ok (.invokevirtual 135, 3) := by decide +kernel
theorem dX3_odd_5 : decode cX3_odd 5 = .ok (.ifCond .eq 13, 3) := by decide +kernel
theorem dX3_odd_8 : decode cX3_odd 8 = .ok (.iload_n 2, 1) := by decide +kernel
theorem dX3_odd_9 : decode cX3_odd 9 = .ok (.iconst 0, 1) := by decide +kernel
theorem dX3_odd_10 : decode cX3_odd 10 = .ok (.bipush 10, 2) := by decide +kernel
theorem dX3_odd_12 : decode cX3_odd 12 = .ok (.invokestatic 70, 3) := by decide +kernel
theorem dX3_odd_15 : decode cX3_odd 15 = .ok (.ifCond .ne 5, 3) := by decide +kernel
theorem dX3_odd_18 : decode cX3_odd 18 = .ok (.iconst (-1), 1) := by decide +kernel
theorem dX3_odd_19 : decode cX3_odd 19 = .ok (.ireturn, 1) := by decide +kernel
theorem dX3_odd_20 : decode cX3_odd 20 = .ok (.aload_n 0, 1) := by decide +kernel
theorem dX3_odd_21 : decode cX3_odd 21 = .ok (.getfield 23, 3) := by decide +kernel
theorem dX3_odd_24 : decode cX3_odd 24 = .ok (.getfield 141, 3) := by decide +kernel
theorem dX3_odd_27 : decode cX3_odd 27 = .ok (.iload_n 1, 1) := by decide +kernel
theorem dX3_odd_28 : decode cX3_odd 28 = .ok (.iaload, 1) := by decide +kernel
theorem dX3_odd_29 : decode cX3_odd 29 = .ok (.istore_n 3, 1) := by decide +kernel
theorem dX3_odd_30 : decode cX3_odd 30 = .ok (.aload_n 0, 1) := by decide +kernel
theorem dX3_odd_31 : decode cX3_odd 31 = .ok (.getfield 23, 3) := by decide +kernel
theorem dX3_odd_34 : decode cX3_odd 34 = .ok (.getfield 141, 3) := by decide +kernel
theorem dX3_odd_37 : decode cX3_odd 37 = .ok (.iload_n 1, 1) := by decide +kernel
theorem dX3_odd_38 : decode cX3_odd 38 = .ok (.iload_n 2, 1) := by decide +kernel
theorem dX3_odd_39 : decode cX3_odd 39 = .ok (.iastore, 1) := by decide +kernel
theorem dX3_odd_40 : decode cX3_odd 40 = .ok (.iload_n 3, 1) := by decide +kernel
theorem dX3_odd_41 : decode cX3_odd 41 = .ok (.ireturn, 1) := by decide +kernel
theorem dX3_lay_0 : decode cX3_lay 0 = .ok (.iload_n 1, 1) := by decide +kernel
theorem dX3_lay_1 : decode cX3_lay 1 = .ok (.ifCond .ne 31, 3) := by decide +kernel
theorem dX3_lay_4 : decode cX3_lay 4 = .ok (.iload_n 2, 1) := by decide +kernel
theorem dX3_lay_5 : decode cX3_lay 5 = .ok (.iconst 0, 1) := by decide +kernel
theorem dX3_lay_6 : decode cX3_lay 6 = .ok (.bipush 9, 2) := by decide +kernel
theorem dX3_lay_8 : decode cX3_lay 8 = .ok (.invokestatic 70, 3) := by decide +kernel
theorem dX3_lay_11 : decode cX3_lay 11 = .ok (.ifCond .eq 21, 3) := by decide +kernel
theorem dX3_lay_14 : decode cX3_lay 14 = .ok (.aload_n 0, 1) := by decide +kernel
theorem dX3_lay_15 : decode cX3_lay 15 = .ok (.getfield 23, 3) := by decide +kernel
theorem dX3_lay_18 : decode cX3_lay 18 = .ok (.getfield 112, 3) := by decide +kernel
theorem dX3_lay_21 : decode cX3_lay 21 = .ok (.istore_n 3, 1) := by decide +kernel
theorem dX3_lay_22 : decode cX3_lay 22 = .ok (.aload_n 0, 1) := by decide +kernel
theorem dX3_lay_23 : decode cX3_lay 23 = .ok (.getfield 23, 3) := by decide +kernel
theorem dX3_lay_26 : decode cX3_lay 26 = .ok (.iload_n 2, 1) := by decide +kernel
theorem dX3_lay_27 : decode cX3_lay 27 = .ok (.putfield 112, 3) := by decide +kernel
theorem dX3_lay_30 : decode cX3_lay 30 = .ok (.iload_n 3, 1) := by decide +kernel
theorem dX3_lay_31 : decode cX3_lay 31 = .ok (.ireturn, 1) := by decide +kernel
theorem dX3_lay_32 : decode cX3_lay 32 = .ok (.iload_n 1, 1) := by decide +kernel
theorem dX3_lay_33 : decode cX3_lay 33 = .ok (.iconst 1, 1) := by decide +kernel
theorem dX3_lay_34 : decode cX3_lay 34 = .ok (.if_icmp .ne 31, 3) := by decide +kernel
theorem dX3_lay_37 : decode cX3_lay 37 = .ok (.iload_n 2, 1) := by decide +kernel
theorem dX3_lay_38 : decode cX3_lay 38 = .ok (.iconst 0, 1) := by decide +kernel
theorem dX3_lay_39 : decode cX3_lay 39 = .ok (.bipush 10, 2) := by decide +kernel
theorem dX3_lay_41 : decode cX3_lay 41 = .ok (.invokestatic 70, 3) := by decide +kernel
theorem dX3_lay_44 : decode cX3_lay 44 = .ok (.ifCond .eq 21, 3) := by decide +kernel
theorem dX3_lay_47 : decode cX3_lay 47 = .ok (.aload_n 0, 1) := by decide +kernel
theorem dX3_lay_48 : decode cX3_lay 48 = .ok (.getfield 23, 3) := by decide +kernel
theorem dX3_lay_51 : decode cX3_lay 51 = .ok (.getfield 115, 3) := by decide +kernel
theorem dX3_lay_54 : decode cX3_lay 54 = .ok (.istore_n 3, 1) := by decide +kernel
theorem dX3_lay_55 : decode cX3_lay 55 = .ok (.aload_n 0, 1) := by decide +kernel
theorem dX3_lay_56 : decode cX3_lay 56 = .ok (.getfield 23, 3) := by decide +kernel
theorem dX3_lay_59 : decode cX3_lay 59 = .ok (.iload_n 2, 1) := by decide +kernel
theorem dX3_lay_60 : decode cX3_lay 60 = .ok (.putfield 115, 3) := by decide +kernel
theorem dX3_lay_63 : decode cX3_lay 63 = .ok (.iload_n 3, 1) := by decide +kernel
theorem dX3_lay_64 : decode cX3_lay 64 = .ok (.ireturn, 1) := by decide +kernel
theorem dX3_lay_65 : decode cX3_lay 65 = .ok (.iconst (-1), 1) := by decide +kernel
theorem dX3_lay_66 : decode cX3_lay 66 = .ok (.ireturn, 1) := by decide +kernel
theorem dX3_go_0 : decode cX3_go 0 = .ok (.iload_n 1, 1) := by decide +kernel
theorem dX3_go_1 : decode cX3_go 1 = .ok (.iconst 0, 1) := by decide +kernel
theorem dX3_go_2 : decode cX3_go 2 = .ok (.bipush 60, 2) := by decide +kernel
theorem dX3_go_4 : decode cX3_go 4 = .ok (.invokestatic 70, 3) := by decide +kernel
theorem dX3_go_7 : decode cX3_go 7 = .ok (.ifCond .ne 5, 3) := by decide +kernel
theorem dX3_go_10 : decode cX3_go 10 = .ok (.iconst (-1), 1) := by decide +kernel
theorem dX3_go_11 : decode cX3_go 11 = .ok (.ireturn, 1) := by decide +kernel
theorem dX3_go_12 : decode cX3_go 12 = .ok (.aload_n 0, 1) := by decide +kernel
theorem dX3_go_13 : decode cX3_go 13 = .ok (.getfield 23, 3) := by decide +kernel
theorem dX3_go_16 : decode cX3_go 16 = .ok (.getfield 103, 3) := by decide +kernel
theorem dX3_go_19 : decode cX3_go 19 = .ok (.iload_n 1, 1) := by decide +kernel
theorem dX3_go_20 : decode cX3_go 20 = .ok (.iadd, 1) := by decide +kernel
theorem dX3_go_21 : decode cX3_go 21 = .ok (.sipush 1000, 3) := by decide +kernel
theorem dX3_go_24 : decode cX3_go 24 = .ok (.if_icmp .lt 6, 3) := by decide +kernel
theorem dX3_go_27 : decode cX3_go 27 = .ok (.bipush (-3), 2) := by decide +kernel
theorem dX3_go_29 : decode cX3_go 29 = .ok (.ireturn, 1) := by decide +kernel
theorem dX3_go_30 : decode cX3_go 30 = .ok (.aload_n 0, 1) := by decide +kernel
theorem dX3_go_31 : decode cX3_go 31 = .ok (.getfield 23, 3) := by decide +kernel
theorem dX3_go_34 : decode cX3_go 34 = .ok (.iload_n 1, 1) := by decide +kernel
theorem dX3_go_35 : decode cX3_go 35 = .ok (.aload_n 0, 1) := by decide +kernel
theorem dX3_go_36 : decode cX3_go 36 = .ok (.getfield 23, 3) := by decide +kernel
theorem dX3_go_39 : decode cX3_go 39 = .ok (.getfield 109, 3) := by decide +kernel
theorem dX3_go_42 : decode cX3_go 42 = .ok (.invokevirtual 172, 3) := by decide +kernel
theorem dX3_go_45 : decode cX3_go 45 = .ok (.aload_n 0, 1) := by decide +kernel
theorem dX3_go_46 : decode cX3_go 46 = .ok (.getfield 23, 3) := by decide +kernel
theorem dX3_go_49 : decode cX3_go 49 = .ok (.invokevirtual 176, 3) := by decide +kernel
theorem dX3_go_52 : decode cX3_go 52 = .ok (.ireturn, 1) := by decide +kernel
theorem dX3_ahead_0 : decode cX3_ahead 0 = .ok (.iload_n 2, 1) := by decide +kernel
theorem dX3_ahead_1 : decode cX3_ahead 1 = .ok (.bipush 10, 2) := by decide +kernel
theorem dX3_ahead_3 : decode cX3_ahead 3 = .ok (.if_icmp .lt 18, 3) := by decide +kernel
theorem dX3_ahead_6 : decode cX3_ahead 6 = .ok (.aload_n 0, 1) := by decide +kernel
theorem dX3_ahead_7 : decode cX3_ahead 7 = .ok (.iload_n 2, 1) := by decide +kernel
theorem dX3_ahead_8 : decode cX3_ahead 8 = .ok (.bipush 10, 2) := by decide +kernel
theorem dX3_ahead_10 : decode cX3_ahead 10 = .ok (.isub, 1) := by decide +kernel
theorem dX3_ahead_11 : decode cX3_ahead 11 = .ok (.invokevirtual 118, 3) := by decide +kernel
theorem dX3_ahead_14 : decode cX3_ahead 14 = .ok (.ifCond .eq 7, 3) := by decide +kernel
theorem dX3_ahead_17 : decode cX3_ahead 17 = .ok (.iconst 1, 1) := by decide +kernel
theorem dX3_ahead_18 : decode cX3_ahead 18 = .ok (.goto 4, 3) := by decide +kernel
theorem dX3_ahead_21 : decode cX3_ahead 21 = .ok (.iconst 0, 1) := by decide +kernel
theorem dX3_ahead_22 : decode cX3_ahead 22 = .ok (.istore_n 3, 1) := by decide +kernel
theorem dX3_ahead_23 : decode cX3_ahead 23 = .ok (.iload_n 1, 1) := by decide +kernel
theorem dX3_ahead_24 : decode cX3_ahead 24 = .ok (.iconst 0, 1) := by decide +kernel
theorem dX3_ahead_25 : decode cX3_ahead 25 = .ok (.bipush 96, 2) := by decide +kernel
theorem dX3_ahead_27 : decode cX3_ahead 27 = .ok (.invokestatic 70, 3) := by decide +kernel
theorem dX3_ahead_30 : decode cX3_ahead 30 = .ok (.ifCond .eq 16, 3) := by decide +kernel
theorem dX3_ahead_33 : decode cX3_ahead 33 = .ok (.iload_n 2, 1) := by decide +kernel
theorem dX3_ahead_34 : decode cX3_ahead 34 = .ok (.iconst 0, 1) := by decide +kernel
theorem dX3_ahead_35 : decode cX3_ahead 35 = .ok (.iconst 2, 1) := by decide +kernel
theorem dX3_ahead_36 : decode cX3_ahead 36 = .ok (.invokestatic 70, 3) := by decide +kernel
theorem dX3_ahead_39 : decode cX3_ahead 39 = .ok (.ifCond .ne 9, 3) := by decide +kernel
theorem dX3_ahead_42 : decode cX3_ahead 42 = .ok (.iload_n 3, 1) := by decide +kernel
theorem dX3_ahead_43 : decode cX3_ahead 43 = .ok (.ifCond .ne 5, 3) := by decide +kernel
theorem dX3_ahead_46 : decode cX3_ahead 46 = .ok (.iconst (-1), 1) := by decide +kernel
theorem dX3_ahead_47 : decode cX3_ahead 47 = .ok (.ireturn, 1) := by decide +kernel
theorem dX3_ahead_48 : decode cX3_ahead 48 = .ok (.aload_n 0, 1) := by decide +kernel
theorem dX3_ahead_49 : decode cX3_ahead 49 = .ok (.getfield 27, 3) := by decide +kernel
theorem dX3_ahead_52 : decode cX3_ahead 52 = .ok (.aload_n 0, 1) := by decide +kernel
theorem dX3_ahead_53 : decode cX3_ahead 53 = .ok (.getfield 23, 3) := by decide +kernel
theorem dX3_ahead_56 : decode cX3_ahead 56 = .ok (.invokevirtual 84, 3) := by decide +kernel
theorem dX3_ahead_59 : decode cX3_ahead 59 = .ok (.aload_n 0, 1) := by decide +kernel
theorem dX3_ahead_60 : decode cX3_ahead 60 = .ok (.getfield 27, 3) := by decide +kernel
theorem dX3_ahead_63 : decode cX3_ahead 63 = .ok (.iload_n 1, 1) := by decide +kernel
theorem dX3_ahead_64 : decode cX3_ahead 64 = .ok (.aload_n 0, 1) := by decide +kernel
theorem dX3_ahead_65 : decode cX3_ahead 65 = .ok (.getfield 23, 3) := by decide +kernel
theorem dX3_ahead_68 : decode cX3_ahead 68 = .ok (.getfield 109, 3) := by decide +kernel
theorem dX3_ahead_71 : decode cX3_ahead 71 = .ok (.invokevirtual 172, 3) := by decide +kernel
theorem dX3_ahead_74 : decode cX3_ahead 74 = .ok (.iload_n 3, 1) := by decide +kernel
theorem dX3_ahead_75 : decode cX3_ahead 75 = .ok (.ifCond .eq 18, 3) := by decide +kernel
theorem dX3_ahead_78 : decode cX3_ahead 78 = .ok (.aload_n 0, 1) := by decide +kernel
theorem dX3_ahead_79 : decode cX3_ahead 79 = .ok (.getfield 27, 3) := by decide +kernel
theorem dX3_ahead_82 : decode cX3_ahead 82 = .ok (.getfield 128, 3) := by decide +kernel
theorem dX3_ahead_85 : decode cX3_ahead 85 = .ok (.iload_n 2, 1) := by decide +kernel
theorem dX3_ahead_86 : decode cX3_ahead 86 = .ok (.bipush 10, 2) := by decide +kernel
theorem dX3_ahead_88 : decode cX3_ahead 88 = .ok (.isub, 1) := by decide +kernel
theorem dX3_ahead_89 : decode cX3_ahead 89 = .ok (.iaload, 1) := by decide +kernel
theorem dX3_ahead_90 : decode cX3_ahead 90 = .ok (.goto 11, 3) := by decide +kernel
theorem dX3_ahead_93 : decode cX3_ahead 93 = .ok (.aload_n 0, 1) := by decide +kernel
theorem dX3_ahead_94 : decode cX3_ahead 94 = .ok (.getfield 27, 3) := by decide +kernel
theorem dX3_ahead_97 : decode cX3_ahead 97 = .ok (.iload_n 2, 1) := by decide +kernel
theorem dX3_ahead_98 : decode cX3_ahead 98 = .ok (.invokestatic 179, 3) := by decide +kernel
theorem dX3_ahead_101 : decode cX3_ahead 101 = .ok (.ireturn, 1) := by decide +kernel
theorem dX3_down_0 : decode cX3_down 0 = .ok (.aload_n 0, 1) := by decide +kernel
theorem dX3_down_1 : decode cX3_down 1 = .ok (.iload_n 1, 1) := by decide +kernel
theorem dX3_down_2 : decode cX3_down 2 = .ok (.invokevirtual 118, 3) := by decide +kernel
theorem dX3_down_5 : decode cX3_down 5 = .ok (.ifCond .ne 5, 3) := by decide +kernel
theorem dX3_down_8 : decode cX3_down 8 = .ok (.iconst (-1), 1) := by decide +kernel
theorem dX3_down_9 : decode cX3_down 9 = .ok (.ireturn, 1) := by decide +kernel
theorem dX3_down_10 : decode cX3_down 10 = .ok (.aload_n 0, 1) := by decide +kernel
theorem dX3_down_11 : decode cX3_down 11 = .ok (.getfield 27, 3) := by decide +kernel
theorem dX3_down_14 : decode cX3_down 14 = .ok (.aload_n 0, 1) := by decide +kernel
theorem dX3_down_15 : decode cX3_down 15 = .ok (.getfield 23, 3) := by decide +kernel
theorem dX3_down_18 : decode cX3_down 18 = .ok (.invokevirtual 84, 3) := by decide +kernel
theorem dX3_down_21 : decode cX3_down 21 = .ok (.iconst 0, 1) := by decide +kernel
theorem dX3_down_22 : decode cX3_down 22 = .ok (.istore_n 2, 1) := by decide +kernel
theorem dX3_down_23 : decode cX3_down 23 = .ok (.iload_n 2, 1) := by decide +kernel
theorem dX3_down_24 : decode cX3_down 24 = .ok (.bipush 96, 2) := by decide +kernel
theorem dX3_down_26 : decode cX3_down 26 = .ok (.if_icmp .gt 37, 3) := by decide +kernel
theorem dX3_down_29 : decode cX3_down 29 = .ok (.aload_n 0, 1) := by decide +kernel
theorem dX3_down_30 : decode cX3_down 30 = .ok (.getfield 27, 3) := by decide +kernel
theorem dX3_down_33 : decode cX3_down 33 = .ok (.iload_n 1, 1) := by decide +kernel
theorem dX3_down_34 : decode cX3_down 34 = .ok (.invokevirtual 183, 3) := by decide +kernel
theorem dX3_down_37 : decode cX3_down 37 = .ok (.ifCond .eq 5, 3) := by decide +kernel
theorem dX3_down_40 : decode cX3_down 40 = .ok (.iload_n 2, 1) := by decide +kernel
theorem dX3_down_41 : decode cX3_down 41 = .ok (.ireturn, 1) := by decide +kernel
theorem dX3_down_42 : decode cX3_down 42 = .ok (.aload_n 0, 1) := by decide +kernel
theorem dX3_down_43 : decode cX3_down 43 = .ok (.getfield 27, 3) := by decide +kernel
theorem dX3_down_46 : decode cX3_down 46 = .ok (.iconst 1, 1) := by decide +kernel
theorem dX3_down_47 : decode cX3_down 47 = .ok (.aload_n 0, 1) := by decide +kernel
theorem dX3_down_48 : decode cX3_down 48 = .ok (.getfield 23, 3) := by decide +kernel
theorem dX3_down_51 : decode cX3_down 51 = .ok (.getfield 109, 3) := by decide +kernel
theorem dX3_down_54 : decode cX3_down 54 = .ok (.invokevirtual 172, 3) := by decide +kernel
theorem dX3_down_57 : decode cX3_down 57 = .ok (.iinc 2 1, 3) := by decide +kernel
theorem dX3_down_60 : decode cX3_down 60 = .ok (.goto (-37), 3) := by decide +kernel
theorem dX3_down_63 : decode cX3_down 63 = .ok (.bipush (-4), 2) := by decide +kernel
theorem dX3_down_65 : decode cX3_down 65 = .ok (.ireturn, 1) := by decide +kernel
theorem dX3_arrive_0 : decode cX3_arrive 0 = .ok (.iload_n 1, 1) := by decide +kernel
theorem dX3_arrive_1 : decode cX3_arrive 1 = .ok (.invokestatic 169, 3) := by decide +kernel
theorem dX3_arrive_4 : decode cX3_arrive 4 = .ok (.ifCond .eq 12, 3) := by decide +kernel
theorem dX3_arrive_7 : decode cX3_arrive 7 = .ok (.iload_n 2, 1) := by decide +kernel
theorem dX3_arrive_8 : decode cX3_arrive 8 = .ok (.iconst 0, 1) := by decide +kernel
theorem dX3_arrive_9 : decode cX3_arrive 9 = .ok (.iconst 1, 1) := by decide +kernel
theorem dX3_arrive_10 : decode cX3_arrive 10 = .ok (.invokestatic 70, 3) := by decide +kernel
theorem dX3_arrive_13 : decode cX3_arrive 13 = .ok (.ifCond .ne 5, 3) := by decide +kernel
theorem dX3_arrive_16 : decode cX3_arrive 16 = .ok (.iconst (-1), 1) := by decide +kernel
theorem dX3_arrive_17 : decode cX3_arrive 17 = .ok (.ireturn, 1) := by decide +kernel
theorem dX3_arrive_18 : decode cX3_arrive 18 = .ok (.aload_n 0, 1) := by decide +kernel
theorem dX3_arrive_19 : decode cX3_arrive 19 = .ok (.getfield 27, 3) := by decide +kernel
theorem dX3_arrive_22 : decode cX3_arrive 22 = .ok (.aload_n 0, 1) := by decide +kernel
theorem dX3_arrive_23 : decode cX3_arrive 23 = .ok (.getfield 23, 3) := by decide +kernel
theorem dX3_arrive_26 : decode cX3_arrive 26 = .ok (.invokevirtual 84, 3) := by decide +kernel
theorem dX3_arrive_29 : decode cX3_arrive 29 = .ok (.aload_n 0, 1) := by decide +kernel
theorem dX3_arrive_30 : decode cX3_arrive 30 = .ok (.getfield 27, 3) := by decide +kernel
theorem dX3_arrive_33 : decode cX3_arrive 33 = .ok (.iload_n 1, 1) := by decide +kernel
theorem dX3_arrive_34 : decode cX3_arrive 34 = .ok (.invokevirtual 186, 3) := by decide +kernel
theorem dX3_arrive_37 : decode cX3_arrive 37 = .ok (.istore_n 3, 1) := by decide +kernel
theorem dX3_arrive_38 : decode cX3_arrive 38 = .ok (.aload_n 0, 1) := by decide +kernel
theorem dX3_arrive_39 : decode cX3_arrive 39 = .ok (.getfield 27, 3) := by decide +kernel
theorem dX3_arrive_42 : decode cX3_arrive 42 = .ok (.invokevirtual 189, 3) := by decide +kernel
theorem dX3_arrive_45 : decode cX3_arrive 45 = .ok (.istore 4, 2) := by decide +kernel
theorem dX3_arrive_47 : decode cX3_arrive 47 = .ok (.iload_n 2, 1) := by decide +kernel
theorem dX3_arrive_48 : decode cX3_arrive 48 = .ok (.ifCond .ne 6, 3) := by decide +kernel
theorem dX3_arrive_51 : decode cX3_arrive 51 = .ok (.iload 4, 2) := by decide +kernel
theorem dX3_arrive_53 : decode cX3_arrive 53 = .ok (.ireturn, 1) := by decide +kernel
theorem dX3_arrive_54 : decode cX3_arrive 54 = .ok (.iload 4, 2) := by decide +kernel
theorem dX3_arrive_56 : decode cX3_arrive 56 = .ok (.ifCond .le 7, 3) := by decide +kernel
theorem dX3_arrive_59 : decode cX3_arrive 59 = .ok (.iload_n 3, 1) := by decide +kernel
theorem dX3_arrive_60 : decode cX3_arrive 60 = .ok (.goto 5, 3) := by decide +kernel
theorem dX3_arrive_63 : decode cX3_arrive 63 = .ok (.bipush (-4), 2) := by decide +kernel
theorem dX3_arrive_65 : decode cX3_arrive 65 = .ok (.ireturn, 1) := by decide +kernel
theorem dX3_best_0 : decode cX3_best 0 = .ok (.iload_n 1, 1) := by decide +kernel
theorem dX3_best_1 : decode cX3_best 1 = .ok (.iconst 0, 1) := by decide +kernel
theorem dX3_best_2 : decode cX3_best 2 = .ok (.iconst 1, 1) := by decide +kernel
theorem dX3_best_3 : decode cX3_best 3 = .ok (.invokestatic 70, 3) := by decide +kernel
theorem dX3_best_6 : decode cX3_best 6 = .ok (.ifCond .ne 5, 3) := by decide +kernel
theorem dX3_best_9 : decode cX3_best 9 = .ok (.iconst (-1), 1) := by decide +kernel
theorem dX3_best_10 : decode cX3_best 10 = .ok (.ireturn, 1) := by decide +kernel
theorem dX3_best_11 : decode cX3_best 11 = .ok (.iconst 0, 1) := by decide +kernel
theorem dX3_best_12 : decode cX3_best 12 = .ok (.istore_n 2, 1) := by decide +kernel
theorem dX3_best_13 : decode cX3_best 13 = .ok (.iconst 0, 1) := by decide +kernel
theorem dX3_best_14 : decode cX3_best 14 = .ok (.istore_n 3, 1) := by decide +kernel
theorem dX3_best_15 : decode cX3_best 15 = .ok (.iconst 0, 1) := by decide +kernel
theorem dX3_best_16 : decode cX3_best 16 = .ok (.istore 4, 2) := by decide +kernel
theorem dX3_best_18 : decode cX3_best 18 = .ok (.iconst 0, 1) := by decide +kernel
theorem dX3_best_19 : decode cX3_best 19 = .ok (.istore 5, 2) := by decide +kernel
theorem dX3_best_21 : decode cX3_best 21 = .ok (.iload 5, 2) := by decide +kernel
theorem dX3_best_23 : decode cX3_best 23 = .ok (.iconst 2, 1) := by decide +kernel
theorem dX3_best_24 : decode cX3_best 24 = .ok (.if_icmp .gt 74, 3) := by decide +kernel
theorem dX3_best_27 : decode cX3_best 27 = .ok (.aload_n 0, 1) := by decide +kernel
theorem dX3_best_28 : decode cX3_best 28 = .ok (.getfield 27, 3) := by decide +kernel
theorem dX3_best_31 : decode cX3_best 31 = .ok (.aload_n 0, 1) := by decide +kernel
theorem dX3_best_32 : decode cX3_best 32 = .ok (.getfield 23, 3) := by decide +kernel
theorem dX3_best_35 : decode cX3_best 35 = .ok (.invokevirtual 84, 3) := by decide +kernel
theorem dX3_best_38 : decode cX3_best 38 = .ok (.aload_n 0, 1) := by decide +kernel
theorem dX3_best_39 : decode cX3_best 39 = .ok (.getfield 27, 3) := by decide +kernel
theorem dX3_best_42 : decode cX3_best 42 = .ok (.iload 5, 2) := by decide +kernel
theorem dX3_best_44 : decode cX3_best 44 = .ok (.invokevirtual 186, 3) := by decide +kernel
theorem dX3_best_47 : decode cX3_best 47 = .ok (.istore 6, 2) := by decide +kernel
theorem dX3_best_49 : decode cX3_best 49 = .ok (.aload_n 0, 1) := by decide +kernel
theorem dX3_best_50 : decode cX3_best 50 = .ok (.getfield 27, 3) := by decide +kernel
theorem dX3_best_53 : decode cX3_best 53 = .ok (.invokevirtual 189, 3) := by decide +kernel
theorem dX3_best_56 : decode cX3_best 56 = .ok (.istore 7, 2) := by decide +kernel
theorem dX3_best_58 : decode cX3_best 58 = .ok (.iload 7, 2) := by decide +kernel
theorem dX3_best_60 : decode cX3_best 60 = .ok (.iload_n 3, 1) := by decide +kernel
theorem dX3_best_61 : decode cX3_best 61 = .ok (.if_icmp .gt 21, 3) := by decide +kernel
theorem dX3_best_64 : decode cX3_best 64 = .ok (.iload 7, 2) := by decide +kernel
theorem dX3_best_66 : decode cX3_best 66 = .ok (.ifCond .le 26, 3) := by decide +kernel
theorem dX3_best_69 : decode cX3_best 69 = .ok (.iload 7, 2) := by decide +kernel
theorem dX3_best_71 : decode cX3_best 71 = .ok (.iload_n 3, 1) := by decide +kernel
theorem dX3_best_72 : decode cX3_best 72 = .ok (.if_icmp .ne 20, 3) := by decide +kernel
theorem dX3_best_75 : decode cX3_best 75 = .ok (.iload 6, 2) := by decide +kernel
theorem dX3_best_77 : decode cX3_best 77 = .ok (.iload 4, 2) := by decide +kernel
theorem dX3_best_79 : decode cX3_best 79 = .ok (.if_icmp .ge 13, 3) := by decide +kernel
theorem dX3_best_82 : decode cX3_best 82 = .ok (.iload 5, 2) := by decide +kernel
theorem dX3_best_84 : decode cX3_best 84 = .ok (.istore_n 2, 1) := by decide +kernel
theorem dX3_best_85 : decode cX3_best 85 = .ok (.iload 7, 2) := by decide +kernel
theorem dX3_best_87 : decode cX3_best 87 = .ok (.istore_n 3, 1) := by decide +kernel
theorem dX3_best_88 : decode cX3_best 88 = .ok (.iload 6, 2) := by decide +kernel
theorem dX3_best_90 : decode cX3_best 90 = .ok (.istore 4, 2) := by decide +kernel
theorem dX3_best_92 : decode cX3_best 92 = .ok (.iinc 5 1, 3) := by decide +kernel
theorem dX3_best_95 : decode cX3_best 95 = .ok (.goto (-74), 3) := by decide +kernel
theorem dX3_best_98 : decode cX3_best 98 = .ok (.iload_n 1, 1) := by decide +kernel
theorem dX3_best_99 : decode cX3_best 99 = .ok (.ifCond .ne 7, 3) := by decide +kernel
theorem dX3_best_102 : decode cX3_best 102 = .ok (.iload_n 2, 1) := by decide +kernel
theorem dX3_best_103 : decode cX3_best 103 = .ok (.goto 4, 3) := by decide +kernel
theorem dX3_best_106 : decode cX3_best 106 = .ok (.iload_n 3, 1) := by decide +kernel
theorem dX3_best_107 : decode cX3_best 107 = .ok (.ireturn, 1) := by decide +kernel
theorem dX3_late_0 : decode cX3_late 0 = .ok (.iload_n 1, 1) := by decide +kernel
theorem dX3_late_1 : decode cX3_late 1 = .ok (.iconst 1, 1) := by decide +kernel
theorem dX3_late_2 : decode cX3_late 2 = .ok (.iconst 4, 1) := by decide +kernel
theorem dX3_late_3 : decode cX3_late 3 = .ok (.invokestatic 70, 3) := by decide +kernel
theorem dX3_late_6 : decode cX3_late 6 = .ok (.ifCond .ne 5, 3) := by decide +kernel
theorem dX3_late_9 : decode cX3_late 9 = .ok (.iconst (-1), 1) := by decide +kernel
theorem dX3_late_10 : decode cX3_late 10 = .ok (.ireturn, 1) := by decide +kernel
theorem dX3_late_11 : decode cX3_late 11 = .ok (.bipush (-4), 2) := by decide +kernel
theorem dX3_late_13 : decode cX3_late 13 = .ok (.istore_n 2, 1) := by decide +kernel
theorem dX3_late_14 : decode cX3_late 14 = .ok (.aload_n 0, 1) := by decide +kernel
theorem dX3_late_15 : decode cX3_late 15 = .ok (.getfield 30, 3) := by decide +kernel
theorem dX3_late_18 : decode cX3_late 18 = .ok (.aload_n 0, 1) := by decide +kernel
theorem dX3_late_19 : decode cX3_late 19 = .ok (.getfield 23, 3) := by decide +kernel
theorem dX3_late_22 : decode cX3_late 22 = .ok (.invokevirtual 84, 3) := by decide +kernel
theorem dX3_late_25 : decode cX3_late 25 = .ok (.iconst 0, 1) := by decide +kernel
theorem dX3_late_26 : decode cX3_late 26 = .ok (.istore_n 3, 1) := by decide +kernel
theorem dX3_late_27 : decode cX3_late 27 = .ok (.iload_n 3, 1) := by decide +kernel
theorem dX3_late_28 : decode cX3_late 28 = .ok (.bipush 72, 2) := by decide +kernel
theorem dX3_late_30 : decode cX3_late 30 = .ok (.if_icmp .gt 50, 3) := by decide +kernel
theorem dX3_late_33 : decode cX3_late 33 = .ok (.aload_n 0, 1) := by decide +kernel
theorem dX3_late_34 : decode cX3_late 34 = .ok (.getfield 27, 3) := by decide +kernel
theorem dX3_late_37 : decode cX3_late 37 = .ok (.aload_n 0, 1) := by decide +kernel
theorem dX3_late_38 : decode cX3_late 38 = .ok (.getfield 30, 3) := by decide +kernel
theorem dX3_late_41 : decode cX3_late 41 = .ok (.invokevirtual 84, 3) := by decide +kernel
theorem dX3_late_44 : decode cX3_late 44 = .ok (.aload_n 0, 1) := by decide +kernel
theorem dX3_late_45 : decode cX3_late 45 = .ok (.getfield 27, 3) := by decide +kernel
theorem dX3_late_48 : decode cX3_late 48 = .ok (.iconst 2, 1) := by decide +kernel
theorem dX3_late_49 : decode cX3_late 49 = .ok (.invokevirtual 186, 3) := by decide +kernel
theorem dX3_late_52 : decode cX3_late 52 = .ok (.pop, 1) := by decide +kernel
theorem dX3_late_53 : decode cX3_late 53 = .ok (.aload_n 0, 1) := by decide +kernel
theorem dX3_late_54 : decode cX3_late 54 = .ok (.getfield 27, 3) := by decide +kernel
theorem dX3_late_57 : decode cX3_late 57 = .ok (.invokevirtual 189, 3) := by decide +kernel
theorem dX3_late_60 : decode cX3_late 60 = .ok (.iload_n 1, 1) := by decide +kernel
theorem dX3_late_61 : decode cX3_late 61 = .ok (.if_icmp .lt 5, 3) := by decide +kernel
theorem dX3_late_64 : decode cX3_late 64 = .ok (.iload_n 3, 1) := by decide +kernel
theorem dX3_late_65 : decode cX3_late 65 = .ok (.istore_n 2, 1) := by decide +kernel
theorem dX3_late_66 : decode cX3_late 66 = .ok (.aload_n 0, 1) := by decide +kernel
theorem dX3_late_67 : decode cX3_late 67 = .ok (.getfield 30, 3) := by decide +kernel
theorem dX3_late_70 : decode cX3_late 70 = .ok (.iconst 0, 1) := by decide +kernel
theorem dX3_late_71 : decode cX3_late 71 = .ok (.invokevirtual 192, 3) := by decide +kernel
theorem dX3_late_74 : decode cX3_late 74 = .ok (.iinc 3 1, 3) := by decide +kernel
theorem dX3_late_77 : decode cX3_late 77 = .ok (.goto (-50), 3) := by decide +kernel
theorem dX3_late_80 : decode cX3_late 80 = .ok (.iload_n 2, 1) := by decide +kernel
theorem dX3_late_81 : decode cX3_late 81 = .ok (.ireturn, 1) := by decide +kernel
theorem dX3_least_0 : decode cX3_least 0 = .ok (.aload_n 0, 1) := by decide +kernel
theorem dX3_least_1 : decode cX3_least 1 = .ok (.getfield 23, 3) := by decide +kernel
theorem dX3_least_4 : decode cX3_least 4 = .ok (.invokevirtual 176, 3) := by decide +kernel
theorem dX3_least_7 : decode cX3_least 7 = .ok (.istore_n 1, 1) := by decide +kernel
theorem dX3_least_8 : decode cX3_least 8 = .ok (.iconst 0, 1) := by decide +kernel
theorem dX3_least_9 : decode cX3_least 9 = .ok (.istore_n 2, 1) := by decide +kernel
theorem dX3_least_10 : decode cX3_least 10 = .ok (.iload_n 2, 1) := by decide +kernel
theorem dX3_least_11 : decode cX3_least 11 = .ok (.bipush 60, 2) := by decide +kernel
theorem dX3_least_13 : decode cX3_least 13 = .ok (.if_icmp .gt 66, 3) := by decide +kernel
theorem dX3_least_16 : decode cX3_least 16 = .ok (.aload_n 0, 1) := by decide +kernel
theorem dX3_least_17 : decode cX3_least 17 = .ok (.getfield 27, 3) := by decide +kernel
theorem dX3_least_20 : decode cX3_least 20 = .ok (.aload_n 0, 1) := by decide +kernel
theorem dX3_least_21 : decode cX3_least 21 = .ok (.getfield 23, 3) := by decide +kernel
theorem dX3_least_24 : decode cX3_least 24 = .ok (.invokevirtual 84, 3) := by decide +kernel
theorem dX3_least_27 : decode cX3_least 27 = .ok (.aload_n 0, 1) := by decide +kernel
theorem dX3_least_28 : decode cX3_least 28 = .ok (.getfield 27, 3) := by decide +kernel
theorem dX3_least_31 : decode cX3_least 31 = .ok (.iload_n 2, 1) := by decide +kernel
theorem dX3_least_32 : decode cX3_least 32 = .ok (.putfield 106, 3) := by decide +kernel
theorem dX3_least_35 : decode cX3_least 35 = .ok (.aload_n 0, 1) := by decide +kernel
theorem dX3_least_36 : decode cX3_least 36 = .ok (.getfield 27, 3) := by decide +kernel
theorem dX3_least_39 : decode cX3_least 39 = .ok (.aload_n 0, 1) := by decide +kernel
theorem dX3_least_40 : decode cX3_least 40 = .ok (.getfield 23, 3) := by decide +kernel
theorem dX3_least_43 : decode cX3_least 43 = .ok (.getfield 109, 3) := by decide +kernel
theorem dX3_least_46 : decode cX3_least 46 = .ok (.invokevirtual 186, 3) := by decide +kernel
theorem dX3_least_49 : decode cX3_least 49 = .ok (.pop, 1) := by decide +kernel
theorem dX3_least_50 : decode cX3_least 50 = .ok (.aload_n 0, 1) := by decide +kernel
theorem dX3_least_51 : decode cX3_least 51 = .ok (.getfield 27, 3) := by decide +kernel
theorem dX3_least_54 : decode cX3_least 54 = .ok (.invokevirtual 196, 3) := by decide +kernel
theorem dX3_least_57 : decode cX3_least 57 = .ok (.ifCond .eq 16, 3) := by decide +kernel
theorem dX3_least_60 : decode cX3_least 60 = .ok (.aload_n 0, 1) := by decide +kernel
theorem dX3_least_61 : decode cX3_least 61 = .ok (.getfield 27, 3) := by decide +kernel
theorem dX3_least_64 : decode cX3_least 64 = .ok (.invokevirtual 176, 3) := by decide +kernel
theorem dX3_least_67 : decode cX3_least 67 = .ok (.iload_n 1, 1) := by decide +kernel
theorem dX3_least_68 : decode cX3_least 68 = .ok (.if_icmp .ne 5, 3) := by decide +kernel
theorem dX3_least_71 : decode cX3_least 71 = .ok (.iload_n 2, 1) := by decide +kernel
theorem dX3_least_72 : decode cX3_least 72 = .ok (.ireturn, 1) := by decide +kernel
theorem dX3_least_73 : decode cX3_least 73 = .ok (.iinc 2 1, 3) := by decide +kernel
theorem dX3_least_76 : decode cX3_least 76 = .ok (.goto (-66), 3) := by decide +kernel
theorem dX3_least_79 : decode cX3_least 79 = .ok (.bipush (-4), 2) := by decide +kernel
theorem dX3_least_81 : decode cX3_least 81 = .ok (.ireturn, 1) := by decide +kernel
theorem dX3_alike_0 : decode cX3_alike 0 = .ok (.iload_n 1, 1) := by decide +kernel
theorem dX3_alike_1 : decode cX3_alike 1 = .ok (.invokestatic 162, 3) := by decide +kernel
theorem dX3_alike_4 : decode cX3_alike 4 = .ok (.ifCond .ne 5, 3) := by decide +kernel
theorem dX3_alike_7 : decode cX3_alike 7 = .ok (.iconst (-1), 1) := by decide +kernel
theorem dX3_alike_8 : decode cX3_alike 8 = .ok (.ireturn, 1) := by decide +kernel
theorem dX3_alike_9 : decode cX3_alike 9 = .ok (.aload_n 0, 1) := by decide +kernel
theorem dX3_alike_10 : decode cX3_alike 10 = .ok (.getfield 27, 3) := by decide +kernel
theorem dX3_alike_13 : decode cX3_alike 13 = .ok (.aload_n 0, 1) := by decide +kernel
theorem dX3_alike_14 : decode cX3_alike 14 = .ok (.getfield 23, 3) := by decide +kernel
theorem dX3_alike_17 : decode cX3_alike 17 = .ok (.invokevirtual 84, 3) := by decide +kernel
theorem dX3_alike_20 : decode cX3_alike 20 = .ok (.iconst 0, 1) := by decide +kernel
theorem dX3_alike_21 : decode cX3_alike 21 = .ok (.istore_n 2, 1) := by decide +kernel
theorem dX3_alike_22 : decode cX3_alike 22 = .ok (.iload_n 2, 1) := by decide +kernel
theorem dX3_alike_23 : decode cX3_alike 23 = .ok (.aload_n 0, 1) := by decide +kernel
theorem dX3_alike_24 : decode cX3_alike 24 = .ok (.getfield 27, 3) := by decide +kernel
theorem dX3_alike_27 : decode cX3_alike 27 = .ok (.getfield 91, 3) := by decide +kernel
theorem dX3_alike_30 : decode cX3_alike 30 = .ok (.if_icmp .ge 19, 3) := by decide +kernel
theorem dX3_alike_33 : decode cX3_alike 33 = .ok (.aload_n 0, 1) := by decide +kernel
theorem dX3_alike_34 : decode cX3_alike 34 = .ok (.getfield 27, 3) := by decide +kernel
theorem dX3_alike_37 : decode cX3_alike 37 = .ok (.getfield 122, 3) := by decide +kernel
theorem dX3_alike_40 : decode cX3_alike 40 = .ok (.iload_n 2, 1) := by decide +kernel
theorem dX3_alike_41 : decode cX3_alike 41 = .ok (.iload_n 1, 1) := by decide +kernel
theorem dX3_alike_42 : decode cX3_alike 42 = .ok (.iastore, 1) := by decide +kernel
theorem dX3_alike_43 : decode cX3_alike 43 = .ok (.iinc 2 1, 3) := by decide +kernel
theorem dX3_alike_46 : decode cX3_alike 46 = .ok (.goto (-24), 3) := by decide +kernel
theorem dX3_alike_49 : decode cX3_alike 49 = .ok (.aload_n 0, 1) := by decide +kernel
theorem dX3_alike_50 : decode cX3_alike 50 = .ok (.getfield 27, 3) := by decide +kernel
theorem dX3_alike_53 : decode cX3_alike 53 = .ok (.aload_n 0, 1) := by decide +kernel
theorem dX3_alike_54 : decode cX3_alike 54 = .ok (.getfield 23, 3) := by decide +kernel
theorem dX3_alike_57 : decode cX3_alike 57 = .ok (.getfield 109, 3) := by decide +kernel
theorem dX3_alike_60 : decode cX3_alike 60 = .ok (.invokevirtual 186, 3) := by decide +kernel
theorem dX3_alike_63 : decode cX3_alike 63 = .ok (.pop, 1) := by decide +kernel
theorem dX3_alike_64 : decode cX3_alike 64 = .ok (.aload_n 0, 1) := by decide +kernel
theorem dX3_alike_65 : decode cX3_alike 65 = .ok (.getfield 27, 3) := by decide +kernel
theorem dX3_alike_68 : decode cX3_alike 68 = .ok (.invokevirtual 189, 3) := by decide +kernel
theorem dX3_alike_71 : decode cX3_alike 71 = .ok (.ireturn, 1) := by decide +kernel
theorem dX3_alone_0 : decode cX3_alone 0 = .ok (.aload_n 0, 1) := by decide +kernel
theorem dX3_alone_1 : decode cX3_alone 1 = .ok (.iload_n 1, 1) := by decide +kernel
theorem dX3_alone_2 : decode cX3_alone 2 = .ok (.invokevirtual 118, 3) := by decide +kernel
theorem dX3_alone_5 : decode cX3_alone 5 = .ok (.ifCond .eq 13, 3) := by decide +kernel
theorem dX3_alone_8 : decode cX3_alone 8 = .ok (.iload_n 2, 1) := by decide +kernel
theorem dX3_alone_9 : decode cX3_alone 9 = .ok (.iconst 0, 1) := by decide +kernel
theorem dX3_alone_10 : decode cX3_alone 10 = .ok (.bipush 20, 2) := by decide +kernel
theorem dX3_alone_12 : decode cX3_alone 12 = .ok (.invokestatic 70, 3) := by decide +kernel
theorem dX3_alone_15 : decode cX3_alone 15 = .ok (.ifCond .ne 5, 3) := by decide +kernel
theorem dX3_alone_18 : decode cX3_alone 18 = .ok (.iconst (-1), 1) := by decide +kernel
theorem dX3_alone_19 : decode cX3_alone 19 = .ok (.ireturn, 1) := by decide +kernel
theorem dX3_alone_20 : decode cX3_alone 20 = .ok (.aload_n 0, 1) := by decide +kernel
theorem dX3_alone_21 : decode cX3_alone 21 = .ok (.getfield 23, 3) := by decide +kernel
theorem dX3_alone_24 : decode cX3_alone 24 = .ok (.iload_n 1, 1) := by decide +kernel
theorem dX3_alone_25 : decode cX3_alone 25 = .ok (.invokevirtual 183, 3) := by decide +kernel
theorem dX3_alone_28 : decode cX3_alone 28 = .ok (.ifCond .eq 6, 3) := by decide +kernel
theorem dX3_alone_31 : decode cX3_alone 31 = .ok (.bipush (-2), 2) := by decide +kernel
theorem dX3_alone_33 : decode cX3_alone 33 = .ok (.ireturn, 1) := by decide +kernel
theorem dX3_alone_34 : decode cX3_alone 34 = .ok (.aload_n 0, 1) := by decide +kernel
theorem dX3_alone_35 : decode cX3_alone 35 = .ok (.getfield 27, 3) := by decide +kernel
theorem dX3_alone_38 : decode cX3_alone 38 = .ok (.aload_n 0, 1) := by decide +kernel
theorem dX3_alone_39 : decode cX3_alone 39 = .ok (.getfield 23, 3) := by decide +kernel
theorem dX3_alone_42 : decode cX3_alone 42 = .ok (.invokevirtual 84, 3) := by decide +kernel
theorem dX3_alone_45 : decode cX3_alone 45 = .ok (.aload_n 0, 1) := by decide +kernel
theorem dX3_alone_46 : decode cX3_alone 46 = .ok (.getfield 27, 3) := by decide +kernel
theorem dX3_alone_49 : decode cX3_alone 49 = .ok (.iload_n 1, 1) := by decide +kernel
theorem dX3_alone_50 : decode cX3_alone 50 = .ok (.invokevirtual 200, 3) := by decide +kernel
theorem dX3_alone_53 : decode cX3_alone 53 = .ok (.aload_n 0, 1) := by decide +kernel
theorem dX3_alone_54 : decode cX3_alone 54 = .ok (.getfield 27, 3) := by decide +kernel
theorem dX3_alone_57 : decode cX3_alone 57 = .ok (.iload_n 2, 1) := by decide +kernel
theorem dX3_alone_58 : decode cX3_alone 58 = .ok (.putfield 106, 3) := by decide +kernel
theorem dX3_alone_61 : decode cX3_alone 61 = .ok (.aload_n 0, 1) := by decide +kernel
theorem dX3_alone_62 : decode cX3_alone 62 = .ok (.getfield 27, 3) := by decide +kernel
theorem dX3_alone_65 : decode cX3_alone 65 = .ok (.aload_n 0, 1) := by decide +kernel
theorem dX3_alone_66 : decode cX3_alone 66 = .ok (.getfield 23, 3) := by decide +kernel
theorem dX3_alone_69 : decode cX3_alone 69 = .ok (.getfield 109, 3) := by decide +kernel
theorem dX3_alone_72 : decode cX3_alone 72 = .ok (.invokevirtual 186, 3) := by decide +kernel
theorem dX3_alone_75 : decode cX3_alone 75 = .ok (.istore_n 3, 1) := by decide +kernel
theorem dX3_alone_76 : decode cX3_alone 76 = .ok (.aload_n 0, 1) := by decide +kernel
theorem dX3_alone_77 : decode cX3_alone 77 = .ok (.getfield 27, 3) := by decide +kernel
theorem dX3_alone_80 : decode cX3_alone 80 = .ok (.invokevirtual 189, 3) := by decide +kernel
theorem dX3_alone_83 : decode cX3_alone 83 = .ok (.ifCond .le 7, 3) := by decide +kernel
theorem dX3_alone_86 : decode cX3_alone 86 = .ok (.iload_n 3, 1) := by decide +kernel
theorem dX3_alone_87 : decode cX3_alone 87 = .ok (.goto 5, 3) := by decide +kernel
theorem dX3_alone_90 : decode cX3_alone 90 = .ok (.bipush (-4), 2) := by decide +kernel
theorem dX3_alone_92 : decode cX3_alone 92 = .ok (.ireturn, 1) := by decide +kernel
theorem dX3_luck_0 : decode cX3_luck 0 = .ok (.iload_n 1, 1) := by decide +kernel
theorem dX3_luck_1 : decode cX3_luck 1 = .ok (.iconst 1, 1) := by decide +kernel
theorem dX3_luck_2 : decode cX3_luck 2 = .ok (.iconst 4, 1) := by decide +kernel
theorem dX3_luck_3 : decode cX3_luck 3 = .ok (.invokestatic 70, 3) := by decide +kernel
theorem dX3_luck_6 : decode cX3_luck 6 = .ok (.ifCond .eq 19, 3) := by decide +kernel
theorem dX3_luck_9 : decode cX3_luck 9 = .ok (.iload_n 2, 1) := by decide +kernel
theorem dX3_luck_10 : decode cX3_luck 10 = .ok (.invokestatic 169, 3) := by decide +kernel
theorem dX3_luck_13 : decode cX3_luck 13 = .ok (.ifCond .eq 12, 3) := by decide +kernel
theorem dX3_luck_16 : decode cX3_luck 16 = .ok (.iload_n 3, 1) := by decide +kernel
theorem dX3_luck_17 : decode cX3_luck 17 = .ok (.iconst 0, 1) := by decide +kernel
theorem dX3_luck_18 : decode cX3_luck 18 = .ok (.iconst 1, 1) := by decide +kernel
theorem dX3_luck_19 : decode cX3_luck 19 = .ok (.invokestatic 70, 3) := by decide +kernel
theorem dX3_luck_22 : decode cX3_luck 22 = .ok (.ifCond .ne 7, 3) := by decide +kernel
theorem dX3_luck_25 : decode cX3_luck 25 = .ok (.ldc2_w 203, 3) := by decide +kernel
theorem dX3_luck_28 : decode cX3_luck 28 = .ok (.lreturn, 1) := by decide +kernel
theorem dX3_luck_29 : decode cX3_luck 29 = .ok (.lconst 0, 1) := by decide +kernel
theorem dX3_luck_30 : decode cX3_luck 30 = .ok (.lstore 4, 2) := by decide +kernel
theorem dX3_luck_32 : decode cX3_luck 32 = .ok (.iconst 0, 1) := by decide +kernel
theorem dX3_luck_33 : decode cX3_luck 33 = .ok (.istore 6, 2) := by decide +kernel
theorem dX3_luck_35 : decode cX3_luck 35 = .ok (.iload 6, 2) := by decide +kernel
theorem dX3_luck_37 : decode cX3_luck 37 = .ok (.iconst 1, 1) := by decide +kernel
theorem dX3_luck_38 : decode cX3_luck 38 = .ok (.aload_n 0, 1) := by decide +kernel
theorem dX3_luck_39 : decode cX3_luck 39 = .ok (.getfield 23, 3) := by decide +kernel
theorem dX3_luck_42 : decode cX3_luck 42 = .ok (.getfield 94, 3) := by decide +kernel
theorem dX3_luck_45 : decode cX3_luck 45 = .ok (.ishl, 1) := by decide +kernel
theorem dX3_luck_46 : decode cX3_luck 46 = .ok (.if_icmp .ge 42, 3) := by decide +kernel
theorem dX3_luck_49 : decode cX3_luck 49 = .ok (.aload_n 0, 1) := by decide +kernel
theorem dX3_luck_50 : decode cX3_luck 50 = .ok (.iload 6, 2) := by decide +kernel
theorem dX3_luck_52 : decode cX3_luck 52 = .ok (.invokevirtual 205, 3) := by decide +kernel
theorem dX3_luck_55 : decode cX3_luck 55 = .ok (.lstore 7, 2) := by decide +kernel
theorem dX3_luck_57 : decode cX3_luck 57 = .ok (.lload 7, 2) := by decide +kernel
theorem dX3_luck_59 : decode cX3_luck 59 = .ok (.lconst 0, 1) := by decide +kernel
theorem dX3_luck_60 : decode cX3_luck 60 = .ok (.lcmp, 1) := by decide +kernel
theorem dX3_luck_61 : decode cX3_luck 61 = .ok (.ifCond .le 21, 3) := by decide +kernel
theorem dX3_luck_64 : decode cX3_luck 64 = .ok (.aload_n 0, 1) := by decide +kernel
theorem dX3_luck_65 : decode cX3_luck 65 = .ok (.iload 6, 2) := by decide +kernel
theorem dX3_luck_67 : decode cX3_luck 67 = .ok (.iload_n 2, 1) := by decide +kernel
theorem dX3_luck_68 : decode cX3_luck 68 = .ok (.invokevirtual 209, 3) := by decide +kernel
theorem dX3_luck_71 : decode cX3_luck 71 = .ok (.iload_n 1, 1) := by decide +kernel
theorem dX3_luck_72 : decode cX3_luck 72 = .ok (.if_icmp .lt 10, 3) := by decide +kernel
theorem dX3_luck_75 : decode cX3_luck 75 = .ok (.lload 4, 2) := by decide +kernel
theorem dX3_luck_77 : decode cX3_luck 77 = .ok (.lload 7, 2) := by decide +kernel
theorem dX3_luck_79 : decode cX3_luck 79 = .ok (.ladd, 1) := by decide +kernel
theorem dX3_luck_80 : decode cX3_luck 80 = .ok (.lstore 4, 2) := by decide +kernel
theorem dX3_luck_82 : decode cX3_luck 82 = .ok (.iinc 6 1, 3) := by decide +kernel
theorem dX3_luck_85 : decode cX3_luck 85 = .ok (.goto (-50), 3) := by decide +kernel
theorem dX3_luck_88 : decode cX3_luck 88 = .ok (.lload 4, 2) := by decide +kernel
theorem dX3_luck_90 : decode cX3_luck 90 = .ok (.bipush 10, 2) := by decide +kernel
theorem dX3_luck_92 : decode cX3_luck 92 = .ok (.aload_n 0, 1) := by decide +kernel
theorem dX3_luck_93 : decode cX3_luck 93 = .ok (.getfield 23, 3) := by decide +kernel
theorem dX3_luck_96 : decode cX3_luck 96 = .ok (.getfield 94, 3) := by decide +kernel
theorem dX3_luck_99 : decode cX3_luck 99 = .ok (.invokestatic 212, 3) := by decide +kernel
theorem dX3_luck_102 : decode cX3_luck 102 = .ok (.iload_n 3, 1) := by decide +kernel
theorem dX3_luck_103 : decode cX3_luck 103 = .ok (.invokestatic 216, 3) := by decide +kernel
theorem dX3_luck_106 : decode cX3_luck 106 = .ok (.lreturn, 1) := by decide +kernel
theorem dX3_mean_0 : decode cX3_mean 0 = .ok (.iload_n 1, 1) := by decide +kernel
theorem dX3_mean_1 : decode cX3_mean 1 = .ok (.invokestatic 169, 3) := by decide +kernel
theorem dX3_mean_4 : decode cX3_mean 4 = .ok (.ifCond .eq 12, 3) := by decide +kernel
theorem dX3_mean_7 : decode cX3_mean 7 = .ok (.iload_n 2, 1) := by decide +kernel
theorem dX3_mean_8 : decode cX3_mean 8 = .ok (.iconst 0, 1) := by decide +kernel
theorem dX3_mean_9 : decode cX3_mean 9 = .ok (.iconst 1, 1) := by decide +kernel
theorem dX3_mean_10 : decode cX3_mean 10 = .ok (.invokestatic 70, 3) := by decide +kernel
theorem dX3_mean_13 : decode cX3_mean 13 = .ok (.ifCond .ne 7, 3) := by decide +kernel
theorem dX3_mean_16 : decode cX3_mean 16 = .ok (.ldc2_w 203, 3) := by decide +kernel
theorem dX3_mean_19 : decode cX3_mean 19 = .ok (.lreturn, 1) := by decide +kernel
theorem dX3_mean_20 : decode cX3_mean 20 = .ok (.lconst 0, 1) := by decide +kernel
theorem dX3_mean_21 : decode cX3_mean 21 = .ok (.lstore_n 3, 1) := by decide +kernel
theorem dX3_mean_22 : decode cX3_mean 22 = .ok (.iconst 0, 1) := by decide +kernel
theorem dX3_mean_23 : decode cX3_mean 23 = .ok (.istore 5, 2) := by decide +kernel
theorem dX3_mean_25 : decode cX3_mean 25 = .ok (.iload 5, 2) := by decide +kernel
theorem dX3_mean_27 : decode cX3_mean 27 = .ok (.iconst 1, 1) := by decide +kernel
theorem dX3_mean_28 : decode cX3_mean 28 = .ok (.aload_n 0, 1) := by decide +kernel
theorem dX3_mean_29 : decode cX3_mean 29 = .ok (.getfield 23, 3) := by decide +kernel
theorem dX3_mean_32 : decode cX3_mean 32 = .ok (.getfield 94, 3) := by decide +kernel
theorem dX3_mean_35 : decode cX3_mean 35 = .ok (.ishl, 1) := by decide +kernel
theorem dX3_mean_36 : decode cX3_mean 36 = .ok (.if_icmp .ge 38, 3) := by decide +kernel
theorem dX3_mean_39 : decode cX3_mean 39 = .ok (.aload_n 0, 1) := by decide +kernel
theorem dX3_mean_40 : decode cX3_mean 40 = .ok (.iload 5, 2) := by decide +kernel
theorem dX3_mean_42 : decode cX3_mean 42 = .ok (.invokevirtual 205, 3) := by decide +kernel
theorem dX3_mean_45 : decode cX3_mean 45 = .ok (.lstore 6, 2) := by decide +kernel
theorem dX3_mean_47 : decode cX3_mean 47 = .ok (.lload 6, 2) := by decide +kernel
theorem dX3_mean_49 : decode cX3_mean 49 = .ok (.lconst 0, 1) := by decide +kernel
theorem dX3_mean_50 : decode cX3_mean 50 = .ok (.lcmp, 1) := by decide +kernel
theorem dX3_mean_51 : decode cX3_mean 51 = .ok (.ifCond .le 17, 3) := by decide +kernel
theorem dX3_mean_54 : decode cX3_mean 54 = .ok (.lload_n 3, 1) := by decide +kernel
theorem dX3_mean_55 : decode cX3_mean 55 = .ok (.lload 6, 2) := by decide +kernel
theorem dX3_mean_57 : decode cX3_mean 57 = .ok (.aload_n 0, 1) := by decide +kernel
theorem dX3_mean_58 : decode cX3_mean 58 = .ok (.iload 5, 2) := by decide +kernel
theorem dX3_mean_60 : decode cX3_mean 60 = .ok (.iload_n 1, 1) := by decide +kernel
theorem dX3_mean_61 : decode cX3_mean 61 = .ok (.invokevirtual 209, 3) := by decide +kernel
theorem dX3_mean_64 : decode cX3_mean 64 = .ok (.i2l, 1) := by decide +kernel
theorem dX3_mean_65 : decode cX3_mean 65 = .ok (.lmul, 1) := by decide +kernel
theorem dX3_mean_66 : decode cX3_mean 66 = .ok (.ladd, 1) := by decide +kernel
theorem dX3_mean_67 : decode cX3_mean 67 = .ok (.lstore_n 3, 1) := by decide +kernel
theorem dX3_mean_68 : decode cX3_mean 68 = .ok (.iinc 5 1, 3) := by decide +kernel
theorem dX3_mean_71 : decode cX3_mean 71 = .ok (.goto (-46), 3) := by decide +kernel
theorem dX3_mean_74 : decode cX3_mean 74 = .ok (.lload_n 3, 1) := by decide +kernel
theorem dX3_mean_75 : decode cX3_mean 75 = .ok (.bipush 10, 2) := by decide +kernel
theorem dX3_mean_77 : decode cX3_mean 77 = .ok (.aload_n 0, 1) := by decide +kernel
theorem dX3_mean_78 : decode cX3_mean 78 = .ok (.getfield 23, 3) := by decide +kernel
theorem dX3_mean_81 : decode cX3_mean 81 = .ok (.getfield 94, 3) := by decide +kernel
theorem dX3_mean_84 : decode cX3_mean 84 = .ok (.invokestatic 212, 3) := by decide +kernel
theorem dX3_mean_87 : decode cX3_mean 87 = .ok (.iload_n 2, 1) := by decide +kernel
theorem dX3_mean_88 : decode cX3_mean 88 = .ok (.invokestatic 216, 3) := by decide +kernel
theorem dX3_mean_91 : decode cX3_mean 91 = .ok (.lreturn, 1) := by decide +kernel
theorem dX3_stay_0 : decode cX3_stay 0 = .ok (.iload_n 1, 1) := by decide +kernel
theorem dX3_stay_1 : decode cX3_stay 1 = .ok (.iconst 0, 1) := by decide +kernel
theorem dX3_stay_2 : decode cX3_stay 2 = .ok (.bipush 96, 2) := by decide +kernel
theorem dX3_stay_4 : decode cX3_stay 4 = .ok (.invokestatic 70, 3) := by decide +kernel
theorem dX3_stay_7 : decode cX3_stay 7 = .ok (.ifCond .eq 12, 3) := by decide +kernel
theorem dX3_stay_10 : decode cX3_stay 10 = .ok (.iload_n 2, 1) := by decide +kernel
theorem dX3_stay_11 : decode cX3_stay 11 = .ok (.iconst 0, 1) := by decide +kernel
theorem dX3_stay_12 : decode cX3_stay 12 = .ok (.iconst 1, 1) := by decide +kernel
theorem dX3_stay_13 : decode cX3_stay 13 = .ok (.invokestatic 70, 3) := by decide +kernel
theorem dX3_stay_16 : decode cX3_stay 16 = .ok (.ifCond .ne 7, 3) := by decide +kernel
theorem dX3_stay_19 : decode cX3_stay 19 = .ok (.ldc2_w 203, 3) := by decide +kernel
theorem dX3_stay_22 : decode cX3_stay 22 = .ok (.lreturn, 1) := by decide +kernel
theorem dX3_stay_23 : decode cX3_stay 23 = .ok (.iconst 0, 1) := by decide +kernel
theorem dX3_stay_24 : decode cX3_stay 24 = .ok (.istore_n 3, 1) := by decide +kernel
theorem dX3_stay_25 : decode cX3_stay 25 = .ok (.aload_n 0, 1) := by decide +kernel
theorem dX3_stay_26 : decode cX3_stay 26 = .ok (.getfield 27, 3) := by decide +kernel
theorem dX3_stay_29 : decode cX3_stay 29 = .ok (.aload_n 0, 1) := by decide +kernel
theorem dX3_stay_30 : decode cX3_stay 30 = .ok (.getfield 23, 3) := by decide +kernel
theorem dX3_stay_33 : decode cX3_stay 33 = .ok (.invokevirtual 84, 3) := by decide +kernel
theorem dX3_stay_36 : decode cX3_stay 36 = .ok (.iconst 0, 1) := by decide +kernel
theorem dX3_stay_37 : decode cX3_stay 37 = .ok (.istore 4, 2) := by decide +kernel
theorem dX3_stay_39 : decode cX3_stay 39 = .ok (.iload 4, 2) := by decide +kernel
theorem dX3_stay_41 : decode cX3_stay 41 = .ok (.iload_n 1, 1) := by decide +kernel
theorem dX3_stay_42 : decode cX3_stay 42 = .ok (.if_icmp .ge 45, 3) := by decide +kernel
theorem dX3_stay_45 : decode cX3_stay 45 = .ok (.aload_n 0, 1) := by decide +kernel
theorem dX3_stay_46 : decode cX3_stay 46 = .ok (.getfield 27, 3) := by decide +kernel
theorem dX3_stay_49 : decode cX3_stay 49 = .ok (.getfield 103, 3) := by decide +kernel
theorem dX3_stay_52 : decode cX3_stay 52 = .ok (.bipush 24, 2) := by decide +kernel
theorem dX3_stay_54 : decode cX3_stay 54 = .ok (.irem, 1) := by decide +kernel
theorem dX3_stay_55 : decode cX3_stay 55 = .ok (.bipush 12, 2) := by decide +kernel
theorem dX3_stay_57 : decode cX3_stay 57 = .ok (.if_icmp .ne 16, 3) := by decide +kernel
theorem dX3_stay_60 : decode cX3_stay 60 = .ok (.aload_n 0, 1) := by decide +kernel
theorem dX3_stay_61 : decode cX3_stay 61 = .ok (.getfield 27, 3) := by decide +kernel
theorem dX3_stay_64 : decode cX3_stay 64 = .ok (.invokevirtual 176, 3) := by decide +kernel
theorem dX3_stay_67 : decode cX3_stay 67 = .ok (.ifCond .le 6, 3) := by decide +kernel
theorem dX3_stay_70 : decode cX3_stay 70 = .ok (.iinc 3 1, 3) := by decide +kernel
theorem dX3_stay_73 : decode cX3_stay 73 = .ok (.aload_n 0, 1) := by decide +kernel
theorem dX3_stay_74 : decode cX3_stay 74 = .ok (.getfield 27, 3) := by decide +kernel
theorem dX3_stay_77 : decode cX3_stay 77 = .ok (.iconst 0, 1) := by decide +kernel
theorem dX3_stay_78 : decode cX3_stay 78 = .ok (.invokevirtual 192, 3) := by decide +kernel
theorem dX3_stay_81 : decode cX3_stay 81 = .ok (.iinc 4 1, 3) := by decide +kernel
theorem dX3_stay_84 : decode cX3_stay 84 = .ok (.goto (-45), 3) := by decide +kernel
theorem dX3_stay_87 : decode cX3_stay 87 = .ok (.bipush 10, 2) := by decide +kernel
theorem dX3_stay_89 : decode cX3_stay 89 = .ok (.iload_n 3, 1) := by decide +kernel
theorem dX3_stay_90 : decode cX3_stay 90 = .ok (.invokestatic 212, 3) := by decide +kernel
theorem dX3_stay_93 : decode cX3_stay 93 = .ok (.lstore 4, 2) := by decide +kernel
theorem dX3_stay_95 : decode cX3_stay 95 = .ok (.lload 4, 2) := by decide +kernel
theorem dX3_stay_97 : decode cX3_stay 97 = .ok (.bipush 10, 2) := by decide +kernel
theorem dX3_stay_99 : decode cX3_stay 99 = .ok (.aload_n 0, 1) := by decide +kernel
theorem dX3_stay_100 : decode cX3_stay 100 = .ok (.getfield 23, 3) := by decide +kernel
theorem dX3_stay_103 : decode cX3_stay 103 = .ok (.getfield 115, 3) := by decide +kernel
theorem dX3_stay_106 : decode cX3_stay 106 = .ok (.isub, 1) := by decide +kernel
theorem dX3_stay_107 : decode cX3_stay 107 = .ok (.iload_n 3, 1) := by decide +kernel
theorem dX3_stay_108 : decode cX3_stay 108 = .ok (.invokestatic 212, 3) := by decide +kernel
theorem dX3_stay_111 : decode cX3_stay 111 = .ok (.lsub, 1) := by decide +kernel
theorem dX3_stay_112 : decode cX3_stay 112 = .ok (.lload 4, 2) := by decide +kernel
theorem dX3_stay_114 : decode cX3_stay 114 = .ok (.iload_n 2, 1) := by decide +kernel
theorem dX3_stay_115 : decode cX3_stay 115 = .ok (.invokestatic 216, 3) := by decide +kernel
theorem dX3_stay_118 : decode cX3_stay 118 = .ok (.lreturn, 1) := by decide +kernel
theorem dX3_see_0 : decode cX3_see 0 = .ok (.iload_n 1, 1) := by decide +kernel
theorem dX3_see_1 : decode cX3_see 1 = .ok (.iconst 1, 1) := by decide +kernel
theorem dX3_see_2 : decode cX3_see 2 = .ok (.bipush 24, 2) := by decide +kernel
theorem dX3_see_4 : decode cX3_see 4 = .ok (.invokestatic 70, 3) := by decide +kernel
theorem dX3_see_7 : decode cX3_see 7 = .ok (.ifCond .eq 13, 3) := by decide +kernel
theorem dX3_see_10 : decode cX3_see 10 = .ok (.iload_n 2, 1) := by decide +kernel
theorem dX3_see_11 : decode cX3_see 11 = .ok (.iconst 0, 1) := by decide +kernel
theorem dX3_see_12 : decode cX3_see 12 = .ok (.bipush 60, 2) := by decide +kernel
theorem dX3_see_14 : decode cX3_see 14 = .ok (.invokestatic 70, 3) := by decide +kernel
theorem dX3_see_17 : decode cX3_see 17 = .ok (.ifCond .ne 5, 3) := by decide +kernel
theorem dX3_see_20 : decode cX3_see 20 = .ok (.iconst (-1), 1) := by decide +kernel
theorem dX3_see_21 : decode cX3_see 21 = .ok (.ireturn, 1) := by decide +kernel
theorem dX3_see_22 : decode cX3_see 22 = .ok (.aload_n 0, 1) := by decide +kernel
theorem dX3_see_23 : decode cX3_see 23 = .ok (.getfield 57, 3) := by decide +kernel
theorem dX3_see_26 : decode cX3_see 26 = .ok (.bipush 6, 2) := by decide +kernel
theorem dX3_see_28 : decode cX3_see 28 = .ok (.if_icmp .lt 6, 3) := by decide +kernel
theorem dX3_see_31 : decode cX3_see 31 = .ok (.bipush (-3), 2) := by decide +kernel
theorem dX3_see_33 : decode cX3_see 33 = .ok (.ireturn, 1) := by decide +kernel
theorem dX3_see_34 : decode cX3_see 34 = .ok (.aload_n 0, 1) := by decide +kernel
theorem dX3_see_35 : decode cX3_see 35 = .ok (.getfield 50, 3) := by decide +kernel
theorem dX3_see_38 : decode cX3_see 38 = .ok (.aload_n 0, 1) := by decide +kernel
theorem dX3_see_39 : decode cX3_see 39 = .ok (.getfield 57, 3) := by decide +kernel
theorem dX3_see_42 : decode cX3_see 42 = .ok (.iload_n 1, 1) := by decide +kernel
theorem dX3_see_43 : decode cX3_see 43 = .ok (.iastore, 1) := by decide +kernel
theorem dX3_see_44 : decode cX3_see 44 = .ok (.aload_n 0, 1) := by decide +kernel
theorem dX3_see_45 : decode cX3_see 45 = .ok (.getfield 54, 3) := by decide +kernel
theorem dX3_see_48 : decode cX3_see 48 = .ok (.aload_n 0, 1) := by decide +kernel
theorem dX3_see_49 : decode cX3_see 49 = .ok (.getfield 57, 3) := by decide +kernel
theorem dX3_see_52 : decode cX3_see 52 = .ok (.iload_n 2, 1) := by decide +kernel
theorem dX3_see_53 : decode cX3_see 53 = .ok (.iastore, 1) := by decide +kernel
theorem dX3_see_54 : decode cX3_see 54 = .ok (.aload_n 0, 1) := by decide +kernel
theorem dX3_see_55 : decode cX3_see 55 = .ok (.dup, 1) := by decide +kernel
theorem dX3_see_56 : decode cX3_see 56 = .ok (.getfield 57, 3) := by decide +kernel
theorem dX3_see_59 : decode cX3_see 59 = .ok (.iconst 1, 1) := by decide +kernel
theorem dX3_see_60 : decode cX3_see 60 = .ok (.iadd, 1) := by decide +kernel
theorem dX3_see_61 : decode cX3_see 61 = .ok (.putfield 57, 3) := by decide +kernel
theorem dX3_see_64 : decode cX3_see 64 = .ok (.aload_n 0, 1) := by decide +kernel
theorem dX3_see_65 : decode cX3_see 65 = .ok (.getfield 57, 3) := by decide +kernel
theorem dX3_see_68 : decode cX3_see 68 = .ok (.ireturn, 1) := by decide +kernel
theorem dX3_forget_0 : decode cX3_forget 0 = .ok (.iload_n 1, 1) := by decide +kernel
theorem dX3_forget_1 : decode cX3_forget 1 = .ok (.iconst 0, 1) := by decide +kernel
theorem dX3_forget_2 : decode cX3_forget 2 = .ok (.aload_n 0, 1) := by decide +kernel
theorem dX3_forget_3 : decode cX3_forget 3 = .ok (.getfield 57, 3) := by decide +kernel
theorem dX3_forget_6 : decode cX3_forget 6 = .ok (.invokestatic 70, 3) := by decide +kernel
theorem dX3_forget_9 : decode cX3_forget 9 = .ok (.ifCond .ne 5, 3) := by decide +kernel
theorem dX3_forget_12 : decode cX3_forget 12 = .ok (.iconst (-1), 1) := by decide +kernel
theorem dX3_forget_13 : decode cX3_forget 13 = .ok (.ireturn, 1) := by decide +kernel
theorem dX3_forget_14 : decode cX3_forget 14 = .ok (.aload_n 0, 1) := by decide +kernel
theorem dX3_forget_15 : decode cX3_forget 15 = .ok (.getfield 57, 3) := by decide +kernel
theorem dX3_forget_18 : decode cX3_forget 18 = .ok (.istore_n 2, 1) := by decide +kernel
theorem dX3_forget_19 : decode cX3_forget 19 = .ok (.aload_n 0, 1) := by decide +kernel
theorem dX3_forget_20 : decode cX3_forget 20 = .ok (.iload_n 1, 1) := by decide +kernel
theorem dX3_forget_21 : decode cX3_forget 21 = .ok (.putfield 57, 3) := by decide +kernel
theorem dX3_forget_24 : decode cX3_forget 24 = .ok (.iload_n 2, 1) := by decide +kernel
theorem dX3_forget_25 : decode cX3_forget 25 = .ok (.ireturn, 1) := by decide +kernel
theorem dX3_fits_0 : decode cX3_fits 0 = .ok (.iload_n 1, 1) := by decide +kernel
theorem dX3_fits_1 : decode cX3_fits 1 = .ok (.iconst 0, 1) := by decide +kernel
theorem dX3_fits_2 : decode cX3_fits 2 = .ok (.iconst 1, 1) := by decide +kernel
theorem dX3_fits_3 : decode cX3_fits 3 = .ok (.invokestatic 70, 3) := by decide +kernel
theorem dX3_fits_6 : decode cX3_fits 6 = .ok (.ifCond .ne 5, 3) := by decide +kernel
theorem dX3_fits_9 : decode cX3_fits 9 = .ok (.iconst (-1), 1) := by decide +kernel
theorem dX3_fits_10 : decode cX3_fits 10 = .ok (.ireturn, 1) := by decide +kernel
theorem dX3_fits_11 : decode cX3_fits 11 = .ok (.iconst 0, 1) := by decide +kernel
theorem dX3_fits_12 : decode cX3_fits 12 = .ok (.istore_n 2, 1) := by decide +kernel
theorem dX3_fits_13 : decode cX3_fits 13 = .ok (.iconst 5, 1) := by decide +kernel
theorem dX3_fits_14 : decode cX3_fits 14 = .ok (.aload_n 0, 1) := by decide +kernel
theorem dX3_fits_15 : decode cX3_fits 15 = .ok (.getfield 23, 3) := by decide +kernel
theorem dX3_fits_18 : decode cX3_fits 18 = .ok (.getfield 91, 3) := by decide +kernel
theorem dX3_fits_21 : decode cX3_fits 21 = .ok (.invokestatic 212, 3) := by decide +kernel
theorem dX3_fits_24 : decode cX3_fits 24 = .ok (.lstore_n 3, 1) := by decide +kernel
theorem dX3_fits_25 : decode cX3_fits 25 = .ok (.iconst 0, 1) := by decide +kernel
theorem dX3_fits_26 : decode cX3_fits 26 = .ok (.istore 5, 2) := by decide +kernel
theorem dX3_fits_28 : decode cX3_fits 28 = .ok (.iload 5, 2) := by decide +kernel
theorem dX3_fits_30 : decode cX3_fits 30 = .ok (.i2l, 1) := by decide +kernel
theorem dX3_fits_31 : decode cX3_fits 31 = .ok (.lload_n 3, 1) := by decide +kernel
theorem dX3_fits_32 : decode cX3_fits 32 = .ok (.lcmp, 1) := by decide +kernel
theorem dX3_fits_33 : decode cX3_fits 33 = .ok (.ifCond .ge 29, 3) := by decide +kernel
theorem dX3_fits_36 : decode cX3_fits 36 = .ok (.aload_n 0, 1) := by decide +kernel
theorem dX3_fits_37 : decode cX3_fits 37 = .ok (.iload 5, 2) := by decide +kernel
theorem dX3_fits_39 : decode cX3_fits 39 = .ok (.invokevirtual 220, 3) := by decide +kernel
theorem dX3_fits_42 : decode cX3_fits 42 = .ok (.ifCond .eq 14, 3) := by decide +kernel
theorem dX3_fits_45 : decode cX3_fits 45 = .ok (.iload_n 1, 1) := by decide +kernel
theorem dX3_fits_46 : decode cX3_fits 46 = .ok (.iconst 1, 1) := by decide +kernel
theorem dX3_fits_47 : decode cX3_fits 47 = .ok (.if_icmp .ne 6, 3) := by decide +kernel
theorem dX3_fits_50 : decode cX3_fits 50 = .ok (.iload 5, 2) := by decide +kernel
theorem dX3_fits_52 : decode cX3_fits 52 = .ok (.ireturn, 1) := by decide +kernel
theorem dX3_fits_53 : decode cX3_fits 53 = .ok (.iinc 2 1, 3) := by decide +kernel
theorem dX3_fits_56 : decode cX3_fits 56 = .ok (.iinc 5 1, 3) := by decide +kernel
theorem dX3_fits_59 : decode cX3_fits 59 = .ok (.goto (-31), 3) := by decide +kernel
theorem dX3_fits_62 : decode cX3_fits 62 = .ok (.iload_n 1, 1) := by decide +kernel
theorem dX3_fits_63 : decode cX3_fits 63 = .ok (.ifCond .ne 7, 3) := by decide +kernel
theorem dX3_fits_66 : decode cX3_fits 66 = .ok (.iload_n 2, 1) := by decide +kernel
theorem dX3_fits_67 : decode cX3_fits 67 = .ok (.goto 5, 3) := by decide +kernel
theorem dX3_fits_70 : decode cX3_fits 70 = .ok (.bipush (-4), 2) := by decide +kernel
theorem dX3_fits_72 : decode cX3_fits 72 = .ok (.ireturn, 1) := by decide +kernel
theorem dX3_kinds_0 : decode cX3_kinds 0 = .ok (.aload_n 0, 1) := by decide +kernel
theorem dX3_kinds_1 : decode cX3_kinds 1 = .ok (.iload_n 1, 1) := by decide +kernel
theorem dX3_kinds_2 : decode cX3_kinds 2 = .ok (.invokevirtual 118, 3) := by decide +kernel
theorem dX3_kinds_5 : decode cX3_kinds 5 = .ok (.ifCond .ne 5, 3) := by decide +kernel
theorem dX3_kinds_8 : decode cX3_kinds 8 = .ok (.iconst (-1), 1) := by decide +kernel
theorem dX3_kinds_9 : decode cX3_kinds 9 = .ok (.ireturn, 1) := by decide +kernel
theorem dX3_kinds_10 : decode cX3_kinds 10 = .ok (.iconst 0, 1) := by decide +kernel
theorem dX3_kinds_11 : decode cX3_kinds 11 = .ok (.istore_n 2, 1) := by decide +kernel
theorem dX3_kinds_12 : decode cX3_kinds 12 = .ok (.iconst 5, 1) := by decide +kernel
theorem dX3_kinds_13 : decode cX3_kinds 13 = .ok (.aload_n 0, 1) := by decide +kernel
theorem dX3_kinds_14 : decode cX3_kinds 14 = .ok (.getfield 23, 3) := by decide +kernel
theorem dX3_kinds_17 : decode cX3_kinds 17 = .ok (.getfield 91, 3) := by decide +kernel
theorem dX3_kinds_20 : decode cX3_kinds 20 = .ok (.invokestatic 212, 3) := by decide +kernel
theorem dX3_kinds_23 : decode cX3_kinds 23 = .ok (.lstore_n 3, 1) := by decide +kernel
theorem dX3_kinds_24 : decode cX3_kinds 24 = .ok (.iconst 0, 1) := by decide +kernel
theorem dX3_kinds_25 : decode cX3_kinds 25 = .ok (.istore 5, 2) := by decide +kernel
theorem dX3_kinds_27 : decode cX3_kinds 27 = .ok (.iload 5, 2) := by decide +kernel
theorem dX3_kinds_29 : decode cX3_kinds 29 = .ok (.i2l, 1) := by decide +kernel
theorem dX3_kinds_30 : decode cX3_kinds 30 = .ok (.lload_n 3, 1) := by decide +kernel
theorem dX3_kinds_31 : decode cX3_kinds 31 = .ok (.lcmp, 1) := by decide +kernel
theorem dX3_kinds_32 : decode cX3_kinds 32 = .ok (.ifCond .ge 32, 3) := by decide +kernel
theorem dX3_kinds_35 : decode cX3_kinds 35 = .ok (.aload_n 0, 1) := by decide +kernel
theorem dX3_kinds_36 : decode cX3_kinds 36 = .ok (.iload 5, 2) := by decide +kernel
theorem dX3_kinds_38 : decode cX3_kinds 38 = .ok (.invokevirtual 220, 3) := by decide +kernel
theorem dX3_kinds_41 : decode cX3_kinds 41 = .ok (.ifCond .eq 17, 3) := by decide +kernel
theorem dX3_kinds_44 : decode cX3_kinds 44 = .ok (.iload_n 2, 1) := by decide +kernel
theorem dX3_kinds_45 : decode cX3_kinds 45 = .ok (.iconst 1, 1) := by decide +kernel
theorem dX3_kinds_46 : decode cX3_kinds 46 = .ok (.aload_n 0, 1) := by decide +kernel
theorem dX3_kinds_47 : decode cX3_kinds 47 = .ok (.getfield 27, 3) := by decide +kernel
theorem dX3_kinds_50 : decode cX3_kinds 50 = .ok (.getfield 122, 3) := by decide +kernel
theorem dX3_kinds_53 : decode cX3_kinds 53 = .ok (.iload_n 1, 1) := by decide +kernel
theorem dX3_kinds_54 : decode cX3_kinds 54 = .ok (.iaload, 1) := by decide +kernel
theorem dX3_kinds_55 : decode cX3_kinds 55 = .ok (.ishl, 1) := by decide +kernel
theorem dX3_kinds_56 : decode cX3_kinds 56 = .ok (.ior, 1) := by decide +kernel
theorem dX3_kinds_57 : decode cX3_kinds 57 = .ok (.istore_n 2, 1) := by decide +kernel
theorem dX3_kinds_58 : decode cX3_kinds 58 = .ok (.iinc 5 1, 3) := by decide +kernel
theorem dX3_kinds_61 : decode cX3_kinds 61 = .ok (.goto (-34), 3) := by decide +kernel
theorem dX3_kinds_64 : decode cX3_kinds 64 = .ok (.iload_n 2, 1) := by decide +kernel
theorem dX3_kinds_65 : decode cX3_kinds 65 = .ok (.ireturn, 1) := by decide +kernel
theorem dX3_drift_0 : decode cX3_drift 0 = .ok (.iload_n 2, 1) := by decide +kernel
theorem dX3_drift_1 : decode cX3_drift 1 = .ok (.iconst 1, 1) := by decide +kernel
theorem dX3_drift_2 : decode cX3_drift 2 = .ok (.bipush 60, 2) := by decide +kernel
theorem dX3_drift_4 : decode cX3_drift 4 = .ok (.invokestatic 70, 3) := by decide +kernel
theorem dX3_drift_7 : decode cX3_drift 7 = .ok (.ifCond .eq 12, 3) := by decide +kernel
theorem dX3_drift_10 : decode cX3_drift 10 = .ok (.iload_n 3, 1) := by decide +kernel
theorem dX3_drift_11 : decode cX3_drift 11 = .ok (.iconst 0, 1) := by decide +kernel
theorem dX3_drift_12 : decode cX3_drift 12 = .ok (.iconst 2, 1) := by decide +kernel
theorem dX3_drift_13 : decode cX3_drift 13 = .ok (.invokestatic 70, 3) := by decide +kernel
theorem dX3_drift_16 : decode cX3_drift 16 = .ok (.ifCond .ne 5, 3) := by decide +kernel
theorem dX3_drift_19 : decode cX3_drift 19 = .ok (.iconst (-1), 1) := by decide +kernel
theorem dX3_drift_20 : decode cX3_drift 20 = .ok (.ireturn, 1) := by decide +kernel
theorem dX3_drift_21 : decode cX3_drift 21 = .ok (.aload_n 0, 1) := by decide +kernel
theorem dX3_drift_22 : decode cX3_drift 22 = .ok (.getfield 27, 3) := by decide +kernel
theorem dX3_drift_25 : decode cX3_drift 25 = .ok (.aload_n 0, 1) := by decide +kernel
theorem dX3_drift_26 : decode cX3_drift 26 = .ok (.getfield 23, 3) := by decide +kernel
theorem dX3_drift_29 : decode cX3_drift 29 = .ok (.invokevirtual 84, 3) := by decide +kernel
theorem dX3_drift_32 : decode cX3_drift 32 = .ok (.iload_n 1, 1) := by decide +kernel
theorem dX3_drift_33 : decode cX3_drift 33 = .ok (.istore 4, 2) := by decide +kernel
theorem dX3_drift_35 : decode cX3_drift 35 = .ok (.iconst 0, 1) := by decide +kernel
theorem dX3_drift_36 : decode cX3_drift 36 = .ok (.istore 5, 2) := by decide +kernel
theorem dX3_drift_38 : decode cX3_drift 38 = .ok (.iload 5, 2) := by decide +kernel
theorem dX3_drift_40 : decode cX3_drift 40 = .ok (.iload_n 2, 1) := by decide +kernel
theorem dX3_drift_41 : decode cX3_drift 41 = .ok (.if_icmp .ge 46, 3) := by decide +kernel
theorem dX3_drift_44 : decode cX3_drift 44 = .ok (.iload 4, 2) := by decide +kernel
theorem dX3_drift_46 : decode cX3_drift 46 = .ok (.ldc 223, 2) := by decide +kernel
theorem dX3_drift_48 : decode cX3_drift 48 = .ok (.imul, 1) := by decide +kernel
theorem dX3_drift_49 : decode cX3_drift 49 = .ok (.sipush 12345, 3) := by decide +kernel
theorem dX3_drift_52 : decode cX3_drift 52 = .ok (.iadd, 1) := by decide +kernel
theorem dX3_drift_53 : decode cX3_drift 53 = .ok (.istore 4, 2) := by decide +kernel
theorem dX3_drift_55 : decode cX3_drift 55 = .ok (.aload_n 0, 1) := by decide +kernel
theorem dX3_drift_56 : decode cX3_drift 56 = .ok (.getfield 27, 3) := by decide +kernel
theorem dX3_drift_59 : decode cX3_drift 59 = .ok (.iload 4, 2) := by decide +kernel
theorem dX3_drift_61 : decode cX3_drift 61 = .ok (.bipush 16, 2) := by decide +kernel
theorem dX3_drift_63 : decode cX3_drift 63 = .ok (.iushr, 1) := by decide +kernel
theorem dX3_drift_64 : decode cX3_drift 64 = .ok (.sipush 32767, 3) := by decide +kernel
theorem dX3_drift_67 : decode cX3_drift 67 = .ok (.iand, 1) := by decide +kernel
theorem dX3_drift_68 : decode cX3_drift 68 = .ok (.iconst 3, 1) := by decide +kernel
theorem dX3_drift_69 : decode cX3_drift 69 = .ok (.irem, 1) := by decide +kernel
theorem dX3_drift_70 : decode cX3_drift 70 = .ok (.ifCond .eq 7, 3) := by decide +kernel
theorem dX3_drift_73 : decode cX3_drift 73 = .ok (.iconst 1, 1) := by decide +kernel
theorem dX3_drift_74 : decode cX3_drift 74 = .ok (.goto 4, 3) := by decide +kernel
theorem dX3_drift_77 : decode cX3_drift 77 = .ok (.iconst 0, 1) := by decide +kernel
theorem dX3_drift_78 : decode cX3_drift 78 = .ok (.invokevirtual 192, 3) := by decide +kernel
theorem dX3_drift_81 : decode cX3_drift 81 = .ok (.iinc 5 1, 3) := by decide +kernel
theorem dX3_drift_84 : decode cX3_drift 84 = .ok (.goto (-46), 3) := by decide +kernel
theorem dX3_drift_87 : decode cX3_drift 87 = .ok (.aload_n 0, 1) := by decide +kernel
theorem dX3_drift_88 : decode cX3_drift 88 = .ok (.getfield 27, 3) := by decide +kernel
theorem dX3_drift_91 : decode cX3_drift 91 = .ok (.iload_n 3, 1) := by decide +kernel
theorem dX3_drift_92 : decode cX3_drift 92 = .ok (.invokestatic 179, 3) := by decide +kernel
theorem dX3_drift_95 : decode cX3_drift 95 = .ok (.ireturn, 1) := by decide +kernel
theorem dX3_keep_0 : decode cX3_keep 0 = .ok (.iload_n 1, 1) := by decide +kernel
theorem dX3_keep_1 : decode cX3_keep 1 = .ok (.invokestatic 224, 3) := by decide +kernel
theorem dX3_keep_4 : decode cX3_keep 4 = .ok (.ifCond .ne 5, 3) := by decide +kernel
theorem dX3_keep_7 : decode cX3_keep 7 = .ok (.iconst (-1), 1) := by decide +kernel
theorem dX3_keep_8 : decode cX3_keep 8 = .ok (.ireturn, 1) := by decide +kernel
theorem dX3_keep_9 : decode cX3_keep 9 = .ok (.aload_n 0, 1) := by decide +kernel
theorem dX3_keep_10 : decode cX3_keep 10 = .ok (.getfield 46, 3) := by decide +kernel
theorem dX3_keep_13 : decode cX3_keep 13 = .ok (.iload_n 1, 1) := by decide +kernel
theorem dX3_keep_14 : decode cX3_keep 14 = .ok (.baload, 1) := by decide +kernel
theorem dX3_keep_15 : decode cX3_keep 15 = .ok (.istore_n 2, 1) := by decide +kernel
theorem dX3_keep_16 : decode cX3_keep 16 = .ok (.aload_n 0, 1) := by decide +kernel
theorem dX3_keep_17 : decode cX3_keep 17 = .ok (.getfield 42, 3) := by decide +kernel
theorem dX3_keep_20 : decode cX3_keep 20 = .ok (.iload_n 1, 1) := by decide +kernel
theorem dX3_keep_21 : decode cX3_keep 21 = .ok (.aaload, 1) := by decide +kernel
theorem dX3_keep_22 : decode cX3_keep 22 = .ok (.aload_n 0, 1) := by decide +kernel
theorem dX3_keep_23 : decode cX3_keep 23 = .ok (.getfield 23, 3) := by decide +kernel
theorem dX3_keep_26 : decode cX3_keep 26 = .ok (.invokevirtual 84, 3) := by decide +kernel
theorem dX3_keep_29 : decode cX3_keep 29 = .ok (.aload_n 0, 1) := by decide +kernel
theorem dX3_keep_30 : decode cX3_keep 30 = .ok (.getfield 46, 3) := by decide +kernel
theorem dX3_keep_33 : decode cX3_keep 33 = .ok (.iload_n 1, 1) := by decide +kernel
theorem dX3_keep_34 : decode cX3_keep 34 = .ok (.iconst 1, 1) := by decide +kernel
theorem dX3_keep_35 : decode cX3_keep 35 = .ok (.bastore, 1) := by decide +kernel
theorem dX3_keep_36 : decode cX3_keep 36 = .ok (.iload_n 2, 1) := by decide +kernel
theorem dX3_keep_37 : decode cX3_keep 37 = .ok (.invokestatic 150, 3) := by decide +kernel
theorem dX3_keep_40 : decode cX3_keep 40 = .ok (.ireturn, 1) := by decide +kernel
theorem dX3_back_0 : decode cX3_back 0 = .ok (.iload_n 1, 1) := by decide +kernel
theorem dX3_back_1 : decode cX3_back 1 = .ok (.invokestatic 224, 3) := by decide +kernel
theorem dX3_back_4 : decode cX3_back 4 = .ok (.ifCond .ne 5, 3) := by decide +kernel
theorem dX3_back_7 : decode cX3_back 7 = .ok (.iconst (-1), 1) := by decide +kernel
theorem dX3_back_8 : decode cX3_back 8 = .ok (.ireturn, 1) := by decide +kernel
theorem dX3_back_9 : decode cX3_back 9 = .ok (.aload_n 0, 1) := by decide +kernel
theorem dX3_back_10 : decode cX3_back 10 = .ok (.getfield 46, 3) := by decide +kernel
theorem dX3_back_13 : decode cX3_back 13 = .ok (.iload_n 1, 1) := by decide +kernel
theorem dX3_back_14 : decode cX3_back 14 = .ok (.baload, 1) := by decide +kernel
theorem dX3_back_15 : decode cX3_back 15 = .ok (.ifCond .ne 6, 3) := by decide +kernel
theorem dX3_back_18 : decode cX3_back 18 = .ok (.bipush (-2), 2) := by decide +kernel
theorem dX3_back_20 : decode cX3_back 20 = .ok (.ireturn, 1) := by decide +kernel
theorem dX3_back_21 : decode cX3_back 21 = .ok (.aload_n 0, 1) := by decide +kernel
theorem dX3_back_22 : decode cX3_back 22 = .ok (.getfield 23, 3) := by decide +kernel
theorem dX3_back_25 : decode cX3_back 25 = .ok (.aload_n 0, 1) := by decide +kernel
theorem dX3_back_26 : decode cX3_back 26 = .ok (.getfield 42, 3) := by decide +kernel
theorem dX3_back_29 : decode cX3_back 29 = .ok (.iload_n 1, 1) := by decide +kernel
theorem dX3_back_30 : decode cX3_back 30 = .ok (.aaload, 1) := by decide +kernel
theorem dX3_back_31 : decode cX3_back 31 = .ok (.invokevirtual 84, 3) := by decide +kernel
theorem dX3_back_34 : decode cX3_back 34 = .ok (.aload_n 0, 1) := by decide +kernel
theorem dX3_back_35 : decode cX3_back 35 = .ok (.getfield 23, 3) := by decide +kernel
theorem dX3_back_38 : decode cX3_back 38 = .ok (.getfield 103, 3) := by decide +kernel
theorem dX3_back_41 : decode cX3_back 41 = .ok (.ireturn, 1) := by decide +kernel
theorem dX3_sheet_0 : decode cX3_sheet 0 = .ok (.iload_n 1, 1) := by decide +kernel
theorem dX3_sheet_1 : decode cX3_sheet 1 = .ok (.invokestatic 227, 3) := by decide +kernel
theorem dX3_sheet_4 : decode cX3_sheet 4 = .ok (.ifCond .eq 16, 3) := by decide +kernel
theorem dX3_sheet_7 : decode cX3_sheet 7 = .ok (.iload_n 2, 1) := by decide +kernel
theorem dX3_sheet_8 : decode cX3_sheet 8 = .ok (.invokestatic 230, 3) := by decide +kernel
theorem dX3_sheet_11 : decode cX3_sheet 11 = .ok (.ifCond .eq 9, 3) := by decide +kernel
theorem dX3_sheet_14 : decode cX3_sheet 14 = .ok (.iload_n 3, 1) := by decide +kernel
theorem dX3_sheet_15 : decode cX3_sheet 15 = .ok (.bipush 40, 2) := by decide +kernel
theorem dX3_sheet_17 : decode cX3_sheet 17 = .ok (.if_icmp .le 5, 3) := by decide +kernel
theorem dX3_sheet_20 : decode cX3_sheet 20 = .ok (.iconst (-1), 1) := by decide +kernel
theorem dX3_sheet_21 : decode cX3_sheet 21 = .ok (.ireturn, 1) := by decide +kernel
theorem dX3_sheet_22 : decode cX3_sheet 22 = .ok (.iload_n 3, 1) := by decide +kernel
theorem dX3_sheet_23 : decode cX3_sheet 23 = .ok (.ifCond .ge 6, 3) := by decide +kernel
theorem dX3_sheet_26 : decode cX3_sheet 26 = .ok (.bipush (-14), 2) := by decide +kernel
theorem dX3_sheet_28 : decode cX3_sheet 28 = .ok (.ireturn, 1) := by decide +kernel
theorem dX3_sheet_29 : decode cX3_sheet 29 = .ok (.aload_n 0, 1) := by decide +kernel
theorem dX3_sheet_30 : decode cX3_sheet 30 = .ok (.getfield 63, 3) := by decide +kernel
theorem dX3_sheet_33 : decode cX3_sheet 33 = .ok (.iload_n 1, 1) := by decide +kernel
theorem dX3_sheet_34 : decode cX3_sheet 34 = .ok (.aaload, 1) := by decide +kernel
theorem dX3_sheet_35 : decode cX3_sheet 35 = .ok (.iload_n 2, 1) := by decide +kernel
theorem dX3_sheet_36 : decode cX3_sheet 36 = .ok (.iload_n 3, 1) := by decide +kernel
theorem dX3_sheet_37 : decode cX3_sheet 37 = .ok (.invokevirtual 233, 3) := by decide +kernel
theorem dX3_sheet_40 : decode cX3_sheet 40 = .ok (.iconst 1, 1) := by decide +kernel
theorem dX3_sheet_41 : decode cX3_sheet 41 = .ok (.ireturn, 1) := by decide +kernel
theorem dX3_put_0 : decode cX3_put 0 = .ok (.iload_n 1, 1) := by decide +kernel
theorem dX3_put_1 : decode cX3_put 1 = .ok (.invokestatic 227, 3) := by decide +kernel
theorem dX3_put_4 : decode cX3_put 4 = .ok (.ifCond .ne 5, 3) := by decide +kernel
theorem dX3_put_7 : decode cX3_put 7 = .ok (.iconst (-1), 1) := by decide +kernel
theorem dX3_put_8 : decode cX3_put 8 = .ok (.ireturn, 1) := by decide +kernel
theorem dX3_put_9 : decode cX3_put 9 = .ok (.aload_n 0, 1) := by decide +kernel
theorem dX3_put_10 : decode cX3_put 10 = .ok (.getfield 63, 3) := by decide +kernel
theorem dX3_put_13 : decode cX3_put 13 = .ok (.iload_n 1, 1) := by decide +kernel
theorem dX3_put_14 : decode cX3_put 14 = .ok (.aaload, 1) := by decide +kernel
theorem dX3_put_15 : decode cX3_put 15 = .ok (.iload_n 2, 1) := by decide +kernel
theorem dX3_put_16 : decode cX3_put 16 = .ok (.invokevirtual 236, 3) := by decide +kernel
theorem dX3_put_19 : decode cX3_put 19 = .ok (.istore 4, 2) := by decide +kernel
theorem dX3_put_21 : decode cX3_put 21 = .ok (.iload 4, 2) := by decide +kernel
theorem dX3_put_23 : decode cX3_put 23 = .ok (.ifCond .eq 9, 3) := by decide +kernel
theorem dX3_put_26 : decode cX3_put 26 = .ok (.bipush (-10), 2) := by decide +kernel
theorem dX3_put_28 : decode cX3_put 28 = .ok (.iload 4, 2) := by decide +kernel
theorem dX3_put_30 : decode cX3_put 30 = .ok (.isub, 1) := by decide +kernel
theorem dX3_put_31 : decode cX3_put 31 = .ok (.ireturn, 1) := by decide +kernel
theorem dX3_put_32 : decode cX3_put 32 = .ok (.aload_n 0, 1) := by decide +kernel
theorem dX3_put_33 : decode cX3_put 33 = .ok (.getfield 63, 3) := by decide +kernel
theorem dX3_put_36 : decode cX3_put 36 = .ok (.iload_n 1, 1) := by decide +kernel
theorem dX3_put_37 : decode cX3_put 37 = .ok (.aaload, 1) := by decide +kernel
theorem dX3_put_38 : decode cX3_put 38 = .ok (.iload_n 2, 1) := by decide +kernel
theorem dX3_put_39 : decode cX3_put 39 = .ok (.iload_n 3, 1) := by decide +kernel
theorem dX3_put_40 : decode cX3_put 40 = .ok (.invokevirtual 239, 3) := by decide +kernel
theorem dX3_put_43 : decode cX3_put 43 = .ok (.iconst 1, 1) := by decide +kernel
theorem dX3_put_44 : decode cX3_put 44 = .ok (.ireturn, 1) := by decide +kernel
theorem dX3_read_0 : decode cX3_read 0 = .ok (.iload_n 1, 1) := by decide +kernel
theorem dX3_read_1 : decode cX3_read 1 = .ok (.invokestatic 227, 3) := by decide +kernel
theorem dX3_read_4 : decode cX3_read 4 = .ok (.ifCond .eq 21, 3) := by decide +kernel
theorem dX3_read_7 : decode cX3_read 7 = .ok (.iload_n 2, 1) := by decide +kernel
theorem dX3_read_8 : decode cX3_read 8 = .ok (.invokestatic 230, 3) := by decide +kernel
theorem dX3_read_11 : decode cX3_read 11 = .ok (.ifCond .eq 14, 3) := by decide +kernel
theorem dX3_read_14 : decode cX3_read 14 = .ok (.iload 4, 2) := by decide +kernel
theorem dX3_read_16 : decode cX3_read 16 = .ok (.iconst 0, 1) := by decide +kernel
theorem dX3_read_17 : decode cX3_read 17 = .ok (.bipush 20, 2) := by decide +kernel
theorem dX3_read_19 : decode cX3_read 19 = .ok (.invokestatic 70, 3) := by decide +kernel
theorem dX3_read_22 : decode cX3_read 22 = .ok (.ifCond .ne 5, 3) := by decide +kernel
theorem dX3_read_25 : decode cX3_read 25 = .ok (.iconst (-1), 1) := by decide +kernel
theorem dX3_read_26 : decode cX3_read 26 = .ok (.ireturn, 1) := by decide +kernel
theorem dX3_read_27 : decode cX3_read 27 = .ok (.aload_n 0, 1) := by decide +kernel
theorem dX3_read_28 : decode cX3_read 28 = .ok (.getfield 63, 3) := by decide +kernel
theorem dX3_read_31 : decode cX3_read 31 = .ok (.iload_n 1, 1) := by decide +kernel
theorem dX3_read_32 : decode cX3_read 32 = .ok (.aaload, 1) := by decide +kernel
theorem dX3_read_33 : decode cX3_read 33 = .ok (.astore 5, 2) := by decide +kernel
theorem dX3_read_35 : decode cX3_read 35 = .ok (.aload_n 0, 1) := by decide +kernel
theorem dX3_read_36 : decode cX3_read 36 = .ok (.getfield 27, 3) := by decide +kernel
theorem dX3_read_39 : decode cX3_read 39 = .ok (.aload_n 0, 1) := by decide +kernel
theorem dX3_read_40 : decode cX3_read 40 = .ok (.getfield 23, 3) := by decide +kernel
theorem dX3_read_43 : decode cX3_read 43 = .ok (.invokevirtual 84, 3) := by decide +kernel
theorem dX3_read_46 : decode cX3_read 46 = .ok (.iconst 0, 1) := by decide +kernel
theorem dX3_read_47 : decode cX3_read 47 = .ok (.istore 6, 2) := by decide +kernel
theorem dX3_read_49 : decode cX3_read 49 = .ok (.iconst 0, 1) := by decide +kernel
theorem dX3_read_50 : decode cX3_read 50 = .ok (.istore 7, 2) := by decide +kernel
theorem dX3_read_52 : decode cX3_read 52 = .ok (.iconst 0, 1) := by decide +kernel
theorem dX3_read_53 : decode cX3_read 53 = .ok (.istore 8, 2) := by decide +kernel
theorem dX3_read_55 : decode cX3_read 55 = .ok (.iload 8, 2) := by decide +kernel
theorem dX3_read_57 : decode cX3_read 57 = .ok (.iload 4, 2) := by decide +kernel
theorem dX3_read_59 : decode cX3_read 59 = .ok (.if_icmp .ge 72, 3) := by decide +kernel
theorem dX3_read_62 : decode cX3_read 62 = .ok (.iload_n 3, 1) := by decide +kernel
theorem dX3_read_63 : decode cX3_read 63 = .ok (.iconst 2, 1) := by decide +kernel
theorem dX3_read_64 : decode cX3_read 64 = .ok (.iload 8, 2) := by decide +kernel
theorem dX3_read_66 : decode cX3_read 66 = .ok (.imul, 1) := by decide +kernel
theorem dX3_read_67 : decode cX3_read 67 = .ok (.iadd, 1) := by decide +kernel
theorem dX3_read_68 : decode cX3_read 68 = .ok (.istore 9, 2) := by decide +kernel
theorem dX3_read_70 : decode cX3_read 70 = .ok (.aload 5, 2) := by decide +kernel
theorem dX3_read_72 : decode cX3_read 72 = .ok (.iload_n 2, 1) := by decide +kernel
theorem dX3_read_73 : decode cX3_read 73 = .ok (.iload 9, 2) := by decide +kernel
theorem dX3_read_75 : decode cX3_read 75 = .ok (.invokevirtual 242, 3) := by decide +kernel
theorem dX3_read_78 : decode cX3_read 78 = .ok (.istore 6, 2) := by decide +kernel
theorem dX3_read_80 : decode cX3_read 80 = .ok (.iload 6, 2) := by decide +kernel
theorem dX3_read_82 : decode cX3_read 82 = .ok (.ifCond .eq 6, 3) := by decide +kernel
theorem dX3_read_85 : decode cX3_read 85 = .ok (.goto 46, 3) := by decide +kernel
theorem dX3_read_88 : decode cX3_read 88 = .ok (.aload_n 0, 1) := by decide +kernel
theorem dX3_read_89 : decode cX3_read 89 = .ok (.getfield 27, 3) := by decide +kernel
theorem dX3_read_92 : decode cX3_read 92 = .ok (.aload 5, 2) := by decide +kernel
theorem dX3_read_94 : decode cX3_read 94 = .ok (.getfield 245, 3) := by decide +kernel
theorem dX3_read_97 : decode cX3_read 97 = .ok (.iload 9, 2) := by decide +kernel
theorem dX3_read_99 : decode cX3_read 99 = .ok (.iaload, 1) := by decide +kernel
theorem dX3_read_100 : decode cX3_read 100 = .ok (.aload 5, 2) := by decide +kernel
theorem dX3_read_102 : decode cX3_read 102 = .ok (.getfield 245, 3) := by decide +kernel
theorem dX3_read_105 : decode cX3_read 105 = .ok (.iload 9, 2) := by decide +kernel
theorem dX3_read_107 : decode cX3_read 107 = .ok (.iconst 1, 1) := by decide +kernel
theorem dX3_read_108 : decode cX3_read 108 = .ok (.iadd, 1) := by decide +kernel
theorem dX3_read_109 : decode cX3_read 109 = .ok (.iaload, 1) := by decide +kernel
theorem dX3_read_110 : decode cX3_read 110 = .ok (.invokevirtual 165, 3) := by decide +kernel
theorem dX3_read_113 : decode cX3_read 113 = .ok (.ifCond .ge 9, 3) := by decide +kernel
theorem dX3_read_116 : decode cX3_read 116 = .ok (.bipush (-20), 2) := by decide +kernel
theorem dX3_read_118 : decode cX3_read 118 = .ok (.iload 8, 2) := by decide +kernel
theorem dX3_read_120 : decode cX3_read 120 = .ok (.isub, 1) := by decide +kernel
theorem dX3_read_121 : decode cX3_read 121 = .ok (.ireturn, 1) := by decide +kernel
theorem dX3_read_122 : decode cX3_read 122 = .ok (.iinc 7 1, 3) := by decide +kernel
theorem dX3_read_125 : decode cX3_read 125 = .ok (.iinc 8 1, 3) := by decide +kernel
theorem dX3_read_128 : decode cX3_read 128 = .ok (.goto (-73), 3) := by decide +kernel
theorem dX3_read_131 : decode cX3_read 131 = .ok (.aload_n 0, 1) := by decide +kernel
theorem dX3_read_132 : decode cX3_read 132 = .ok (.getfield 23, 3) := by decide +kernel
theorem dX3_read_135 : decode cX3_read 135 = .ok (.aload_n 0, 1) := by decide +kernel
theorem dX3_read_136 : decode cX3_read 136 = .ok (.getfield 27, 3) := by decide +kernel
theorem dX3_read_139 : decode cX3_read 139 = .ok (.invokevirtual 84, 3) := by decide +kernel
theorem dX3_read_142 : decode cX3_read 142 = .ok (.aload_n 0, 1) := by decide +kernel
theorem dX3_read_143 : decode cX3_read 143 = .ok (.iload 6, 2) := by decide +kernel
theorem dX3_read_145 : decode cX3_read 145 = .ok (.putfield 67, 3) := by decide +kernel
theorem dX3_read_148 : decode cX3_read 148 = .ok (.iload 7, 2) := by decide +kernel
theorem dX3_read_150 : decode cX3_read 150 = .ok (.ireturn, 1) := by decide +kernel
theorem dX3_torn_0 : decode cX3_torn 0 = .ok (.aload_n 0, 1) := by decide +kernel
theorem dX3_torn_1 : decode cX3_torn 1 = .ok (.getfield 67, 3) := by decide +kernel
theorem dX3_torn_4 : decode cX3_torn 4 = .ok (.ireturn, 1) := by decide +kernel
theorem dX3_count_0 : decode cX3_count 0 = .ok (.iload_n 1, 1) := by decide +kernel
theorem dX3_count_1 : decode cX3_count 1 = .ok (.tableswitch 124 0 6 #[43, 48, 68, 73, 100, 108, 116], 43) := by decide +kernel
theorem dX3_count_44 : decode cX3_count 44 = .ok (.aload_n 0, 1) := by decide +kernel
theorem dX3_count_45 : decode cX3_count 45 = .ok (.getfield 57, 3) := by decide +kernel
theorem dX3_count_48 : decode cX3_count 48 = .ok (.ireturn, 1) := by decide +kernel
theorem dX3_count_49 : decode cX3_count 49 = .ok (.aload_n 0, 1) := by decide +kernel
theorem dX3_count_50 : decode cX3_count 50 = .ok (.getfield 46, 3) := by decide +kernel
theorem dX3_count_53 : decode cX3_count 53 = .ok (.iconst 0, 1) := by decide +kernel
theorem dX3_count_54 : decode cX3_count 54 = .ok (.baload, 1) := by decide +kernel
theorem dX3_count_55 : decode cX3_count 55 = .ok (.invokestatic 150, 3) := by decide +kernel
theorem dX3_count_58 : decode cX3_count 58 = .ok (.aload_n 0, 1) := by decide +kernel
theorem dX3_count_59 : decode cX3_count 59 = .ok (.getfield 46, 3) := by decide +kernel
theorem dX3_count_62 : decode cX3_count 62 = .ok (.iconst 1, 1) := by decide +kernel
theorem dX3_count_63 : decode cX3_count 63 = .ok (.baload, 1) := by decide +kernel
theorem dX3_count_64 : decode cX3_count 64 = .ok (.invokestatic 150, 3) := by decide +kernel
theorem dX3_count_67 : decode cX3_count 67 = .ok (.iadd, 1) := by decide +kernel
theorem dX3_count_68 : decode cX3_count 68 = .ok (.ireturn, 1) := by decide +kernel
theorem dX3_count_69 : decode cX3_count 69 = .ok (.aload_n 0, 1) := by decide +kernel
theorem dX3_count_70 : decode cX3_count 70 = .ok (.getfield 13, 3) := by decide +kernel
theorem dX3_count_73 : decode cX3_count 73 = .ok (.ireturn, 1) := by decide +kernel
theorem dX3_count_74 : decode cX3_count 74 = .ok (.aload_n 0, 1) := by decide +kernel
theorem dX3_count_75 : decode cX3_count 75 = .ok (.getfield 63, 3) := by decide +kernel
theorem dX3_count_78 : decode cX3_count 78 = .ok (.iconst 0, 1) := by decide +kernel
theorem dX3_count_79 : decode cX3_count 79 = .ok (.aaload, 1) := by decide +kernel
theorem dX3_count_80 : decode cX3_count 80 = .ok (.invokevirtual 248, 3) := by decide +kernel
theorem dX3_count_83 : decode cX3_count 83 = .ok (.ifCond .eq 8, 3) := by decide +kernel
theorem dX3_count_86 : decode cX3_count 86 = .ok (.bipush (-4), 2) := by decide +kernel
theorem dX3_count_88 : decode cX3_count 88 = .ok (.goto 12, 3) := by decide +kernel
theorem dX3_count_91 : decode cX3_count 91 = .ok (.aload_n 0, 1) := by decide +kernel
theorem dX3_count_92 : decode cX3_count 92 = .ok (.getfield 63, 3) := by decide +kernel
theorem dX3_count_95 : decode cX3_count 95 = .ok (.iconst 0, 1) := by decide +kernel
theorem dX3_count_96 : decode cX3_count 96 = .ok (.aaload, 1) := by decide +kernel
theorem dX3_count_97 : decode cX3_count 97 = .ok (.getfield 251, 3) := by decide +kernel
theorem dX3_count_100 : decode cX3_count 100 = .ok (.ireturn, 1) := by decide +kernel
theorem dX3_count_101 : decode cX3_count 101 = .ok (.aload_n 0, 1) := by decide +kernel
theorem dX3_count_102 : decode cX3_count 102 = .ok (.getfield 23, 3) := by decide +kernel
theorem dX3_count_105 : decode cX3_count 105 = .ok (.invokevirtual 176, 3) := by decide +kernel
theorem dX3_count_108 : decode cX3_count 108 = .ok (.ireturn, 1) := by decide +kernel
theorem dX3_count_109 : decode cX3_count 109 = .ok (.aload_n 0, 1) := by decide +kernel
theorem dX3_count_110 : decode cX3_count 110 = .ok (.getfield 23, 3) := by decide +kernel
theorem dX3_count_113 : decode cX3_count 113 = .ok (.invokevirtual 254, 3) := by decide +kernel
theorem dX3_count_116 : decode cX3_count 116 = .ok (.ireturn, 1) := by decide +kernel
theorem dX3_count_117 : decode cX3_count 117 = .ok (.aload_n 0, 1) := by decide +kernel
theorem dX3_count_118 : decode cX3_count 118 = .ok (.getfield 23, 3) := by decide +kernel
theorem dX3_count_121 : decode cX3_count 121 = .ok (.invokevirtual 257, 3) := by decide +kernel
theorem dX3_count_124 : decode cX3_count 124 = .ok (.ireturn, 1) := by decide +kernel
theorem dX3_count_125 : decode cX3_count 125 = .ok (.iconst (-1), 1) := by decide +kernel
theorem dX3_count_126 : decode cX3_count 126 = .ok (.ireturn, 1) := by decide +kernel
theorem dX3_within_0 : decode cX3_within 0 = .ok (.iload_n 0, 1) := by decide +kernel
theorem dX3_within_1 : decode cX3_within 1 = .ok (.iload_n 1, 1) := by decide +kernel
theorem dX3_within_2 : decode cX3_within 2 = .ok (.if_icmp .lt 12, 3) := by decide +kernel
theorem dX3_within_5 : decode cX3_within 5 = .ok (.iload_n 0, 1) := by decide +kernel
theorem dX3_within_6 : decode cX3_within 6 = .ok (.iload_n 2, 1) := by decide +kernel
theorem dX3_within_7 : decode cX3_within 7 = .ok (.if_icmp .gt 7, 3) := by decide +kernel
theorem dX3_within_10 : decode cX3_within 10 = .ok (.iconst 1, 1) := by decide +kernel
theorem dX3_within_11 : decode cX3_within 11 = .ok (.goto 4, 3) := by decide +kernel
theorem dX3_within_14 : decode cX3_within 14 = .ok (.iconst 0, 1) := by decide +kernel
theorem dX3_within_15 : decode cX3_within 15 = .ok (.ireturn, 1) := by decide +kernel
theorem dX3_asNumber_0 : decode cX3_asNumber 0 = .ok (.iload_n 0, 1) := by decide +kernel
theorem dX3_asNumber_1 : decode cX3_asNumber 1 = .ok (.ifCond .eq 7, 3) := by decide +kernel
theorem dX3_asNumber_4 : decode cX3_asNumber 4 = .ok (.iconst 1, 1) := by decide +kernel
theorem dX3_asNumber_5 : decode cX3_asNumber 5 = .ok (.goto 4, 3) := by decide +kernel
theorem dX3_asNumber_8 : decode cX3_asNumber 8 = .ok (.iconst 0, 1) := by decide +kernel
theorem dX3_asNumber_9 : decode cX3_asNumber 9 = .ok (.ireturn, 1) := by decide +kernel
theorem dX3_isOne_0 : decode cX3_isOne 0 = .ok (.iload_n 1, 1) := by decide +kernel
theorem dX3_isOne_1 : decode cX3_isOne 1 = .ok (.iconst 0, 1) := by decide +kernel
theorem dX3_isOne_2 : decode cX3_isOne 2 = .ok (.aload_n 0, 1) := by decide +kernel
theorem dX3_isOne_3 : decode cX3_isOne 3 = .ok (.getfield 23, 3) := by decide +kernel
theorem dX3_isOne_6 : decode cX3_isOne 6 = .ok (.getfield 91, 3) := by decide +kernel
theorem dX3_isOne_9 : decode cX3_isOne 9 = .ok (.iconst 1, 1) := by decide +kernel
theorem dX3_isOne_10 : decode cX3_isOne 10 = .ok (.isub, 1) := by decide +kernel
theorem dX3_isOne_11 : decode cX3_isOne 11 = .ok (.invokestatic 70, 3) := by decide +kernel
theorem dX3_isOne_14 : decode cX3_isOne 14 = .ok (.ireturn, 1) := by decide +kernel
theorem dX3_isWell_0 : decode cX3_isWell 0 = .ok (.iload_n 1, 1) := by decide +kernel
theorem dX3_isWell_1 : decode cX3_isWell 1 = .ok (.iconst 0, 1) := by decide +kernel
theorem dX3_isWell_2 : decode cX3_isWell 2 = .ok (.aload_n 0, 1) := by decide +kernel
theorem dX3_isWell_3 : decode cX3_isWell 3 = .ok (.getfield 23, 3) := by decide +kernel
theorem dX3_isWell_6 : decode cX3_isWell 6 = .ok (.getfield 94, 3) := by decide +kernel
theorem dX3_isWell_9 : decode cX3_isWell 9 = .ok (.iconst 1, 1) := by decide +kernel
theorem dX3_isWell_10 : decode cX3_isWell 10 = .ok (.isub, 1) := by decide +kernel
theorem dX3_isWell_11 : decode cX3_isWell 11 = .ok (.invokestatic 70, 3) := by decide +kernel
theorem dX3_isWell_14 : decode cX3_isWell 14 = .ok (.ireturn, 1) := by decide +kernel
theorem dX3_isKind_0 : decode cX3_isKind 0 = .ok (.iload_n 0, 1) := by decide +kernel
theorem dX3_isKind_1 : decode cX3_isKind 1 = .ok (.iconst 0, 1) := by decide +kernel
theorem dX3_isKind_2 : decode cX3_isKind 2 = .ok (.iconst 4, 1) := by decide +kernel
theorem dX3_isKind_3 : decode cX3_isKind 3 = .ok (.invokestatic 70, 3) := by decide +kernel
theorem dX3_isKind_6 : decode cX3_isKind 6 = .ok (.ireturn, 1) := by decide +kernel
theorem dX3_isPlan_0 : decode cX3_isPlan 0 = .ok (.iload_n 0, 1) := by decide +kernel
theorem dX3_isPlan_1 : decode cX3_isPlan 1 = .ok (.iconst 0, 1) := by decide +kernel
theorem dX3_isPlan_2 : decode cX3_isPlan 2 = .ok (.iconst 3, 1) := by decide +kernel
theorem dX3_isPlan_3 : decode cX3_isPlan 3 = .ok (.invokestatic 70, 3) := by decide +kernel
theorem dX3_isPlan_6 : decode cX3_isPlan 6 = .ok (.ireturn, 1) := by decide +kernel
theorem dX3_isImage_0 : decode cX3_isImage 0 = .ok (.iload_n 0, 1) := by decide +kernel
theorem dX3_isImage_1 : decode cX3_isImage 1 = .ok (.iconst 0, 1) := by decide +kernel
theorem dX3_isImage_2 : decode cX3_isImage 2 = .ok (.iconst 1, 1) := by decide +kernel
theorem dX3_isImage_3 : decode cX3_isImage 3 = .ok (.invokestatic 70, 3) := by decide +kernel
theorem dX3_isImage_6 : decode cX3_isImage 6 = .ok (.ireturn, 1) := by decide +kernel
theorem dX3_isSheet_0 : decode cX3_isSheet 0 = .ok (.iload_n 0, 1) := by decide +kernel
theorem dX3_isSheet_1 : decode cX3_isSheet 1 = .ok (.iconst 0, 1) := by decide +kernel
theorem dX3_isSheet_2 : decode cX3_isSheet 2 = .ok (.iconst 3, 1) := by decide +kernel
theorem dX3_isSheet_3 : decode cX3_isSheet 3 = .ok (.invokestatic 70, 3) := by decide +kernel
theorem dX3_isSheet_6 : decode cX3_isSheet 6 = .ok (.ireturn, 1) := by decide +kernel
theorem dX3_isLane_0 : decode cX3_isLane 0 = .ok (.iload_n 0, 1) := by decide +kernel
theorem dX3_isLane_1 : decode cX3_isLane 1 = .ok (.iconst 0, 1) := by decide +kernel
theorem dX3_isLane_2 : decode cX3_isLane 2 = .ok (.iconst 2, 1) := by decide +kernel
theorem dX3_isLane_3 : decode cX3_isLane 3 = .ok (.invokestatic 70, 3) := by decide +kernel
theorem dX3_isLane_6 : decode cX3_isLane 6 = .ok (.ireturn, 1) := by decide +kernel
theorem dX3_told_0 : decode cX3_told 0 = .ok (.iload_n 1, 1) := by decide +kernel
theorem dX3_told_1 : decode cX3_told 1 = .ok (.lookupswitch 37 #[(0, 27), (1, 32)], 27) := by decide +kernel
theorem dX3_told_28 : decode cX3_told 28 = .ok (.aload_n 0, 1) := by decide +kernel
theorem dX3_told_29 : decode cX3_told 29 = .ok (.getfield 100, 3) := by decide +kernel
theorem dX3_told_32 : decode cX3_told 32 = .ok (.ireturn, 1) := by decide +kernel
theorem dX3_told_33 : decode cX3_told 33 = .ok (.aload_n 0, 1) := by decide +kernel
theorem dX3_told_34 : decode cX3_told 34 = .ok (.getfield 106, 3) := by decide +kernel
theorem dX3_told_37 : decode cX3_told 37 = .ok (.ireturn, 1) := by decide +kernel
theorem dX3_told_38 : decode cX3_told 38 = .ok (.aload_n 0, 1) := by decide +kernel
theorem dX3_told_39 : decode cX3_told 39 = .ok (.invokevirtual 176, 3) := by decide +kernel
theorem dX3_told_42 : decode cX3_told 42 = .ok (.ireturn, 1) := by decide +kernel
theorem dX3_weightOf_0 : decode cX3_weightOf 0 = .ok (.lconst 1, 1) := by decide +kernel
theorem dX3_weightOf_1 : decode cX3_weightOf 1 = .ok (.lstore_n 2, 1) := by decide +kernel
theorem dX3_weightOf_2 : decode cX3_weightOf 2 = .ok (.iconst 0, 1) := by decide +kernel
theorem dX3_weightOf_3 : decode cX3_weightOf 3 = .ok (.istore 4, 2) := by decide +kernel
theorem dX3_weightOf_5 : decode cX3_weightOf 5 = .ok (.iload 4, 2) := by decide +kernel
theorem dX3_weightOf_7 : decode cX3_weightOf 7 = .ok (.aload_n 0, 1) := by decide +kernel
theorem dX3_weightOf_8 : decode cX3_weightOf 8 = .ok (.getfield 23, 3) := by decide +kernel
theorem dX3_weightOf_11 : decode cX3_weightOf 11 = .ok (.getfield 94, 3) := by decide +kernel
theorem dX3_weightOf_14 : decode cX3_weightOf 14 = .ok (.if_icmp .ge 75, 3) := by decide +kernel
theorem dX3_weightOf_17 : decode cX3_weightOf 17 = .ok (.aload_n 0, 1) := by decide +kernel
theorem dX3_weightOf_18 : decode cX3_weightOf 18 = .ok (.getfield 23, 3) := by decide +kernel
theorem dX3_weightOf_21 : decode cX3_weightOf 21 = .ok (.getfield 147, 3) := by decide +kernel
theorem dX3_weightOf_24 : decode cX3_weightOf 24 = .ok (.iload 4, 2) := by decide +kernel
theorem dX3_weightOf_26 : decode cX3_weightOf 26 = .ok (.baload, 1) := by decide +kernel
theorem dX3_weightOf_27 : decode cX3_weightOf 27 = .ok (.ifCond .eq 16, 3) := by decide +kernel
theorem dX3_weightOf_30 : decode cX3_weightOf 30 = .ok (.aload_n 0, 1) := by decide +kernel
theorem dX3_weightOf_31 : decode cX3_weightOf 31 = .ok (.getfield 23, 3) := by decide +kernel
theorem dX3_weightOf_34 : decode cX3_weightOf 34 = .ok (.getfield 141, 3) := by decide +kernel
theorem dX3_weightOf_37 : decode cX3_weightOf 37 = .ok (.iload 4, 2) := by decide +kernel
