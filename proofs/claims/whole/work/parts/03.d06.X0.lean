theorem dX0_init_0 : decode cX0_init 0 = .ok (.aload_n 0, 1) := by decide +kernel
theorem dX0_init_1 : decode cX0_init 1 = .ok (.invokespecial 3, 3) := by decide +kernel
theorem dX0_init_4 : decode cX0_init 4 = .ok (.aload_n 0, 1) := by decide +kernel
theorem dX0_init_5 : decode cX0_init 5 = .ok (.iconst 0, 1) := by decide +kernel
theorem dX0_init_6 : decode cX0_init 6 = .ok (.putfield 9, 3) := by decide +kernel
theorem dX0_init_9 : decode cX0_init 9 = .ok (.aload_n 0, 1) := by decide +kernel
theorem dX0_init_10 : decode cX0_init 10 = .ok (.iconst 4, 1) := by decide +kernel
theorem dX0_init_11 : decode cX0_init 11 = .ok (.newarray .int, 2) := by decide +kernel
theorem dX0_init_13 : decode cX0_init 13 = .ok (.putfield 15, 3) := by decide +kernel
theorem dX0_init_16 : decode cX0_init 16 = .ok (.aload_n 0, 1) := by decide +kernel
theorem dX0_init_17 : decode cX0_init 17 = .ok (.iconst 4, 1) := by decide +kernel
theorem dX0_init_18 : decode cX0_init 18 = .ok (.newarray .int, 2) := by decide +kernel
theorem dX0_init_20 : decode cX0_init 20 = .ok (.putfield 19, 3) := by decide +kernel
theorem dX0_init_23 : decode cX0_init 23 = .ok (.aload_n 0, 1) := by decide +kernel
theorem dX0_init_24 : decode cX0_init 24 = .ok (.iconst 4, 1) := by decide +kernel
theorem dX0_init_25 : decode cX0_init 25 = .ok (.newarray .int, 2) := by decide +kernel
theorem dX0_init_27 : decode cX0_init 27 = .ok (.putfield 22, 3) := by decide +kernel
theorem dX0_init_30 : decode cX0_init 30 = .ok (.aload_n 0, 1) := by decide +kernel
theorem dX0_init_31 : decode cX0_init 31 = .ok (.iconst 0, 1) := by decide +kernel
theorem dX0_init_32 : decode cX0_init 32 = .ok (.putfield 25, 3) := by decide +kernel
theorem dX0_init_35 : decode cX0_init 35 = .ok (.aload_n 0, 1) := by decide +kernel
theorem dX0_init_36 : decode cX0_init 36 = .ok (.iconst 3, 1) := by decide +kernel
theorem dX0_init_37 : decode cX0_init 37 = .ok (.newarray .int, 2) := by decide +kernel
theorem dX0_init_39 : decode cX0_init 39 = .ok (.putfield 28, 3) := by decide +kernel
theorem dX0_init_42 : decode cX0_init 42 = .ok (.aload_n 0, 1) := by decide +kernel
theorem dX0_init_43 : decode cX0_init 43 = .ok (.iconst 3, 1) := by decide +kernel
theorem dX0_init_44 : decode cX0_init 44 = .ok (.newarray .int, 2) := by decide +kernel
theorem dX0_init_46 : decode cX0_init 46 = .ok (.putfield 31, 3) := by decide +kernel
theorem dX0_init_49 : decode cX0_init 49 = .ok (.aload_n 0, 1) := by decide +kernel
theorem dX0_init_50 : decode cX0_init 50 = .ok (.iconst 3, 1) := by decide +kernel
theorem dX0_init_51 : decode cX0_init 51 = .ok (.newarray .int, 2) := by decide +kernel
theorem dX0_init_53 : decode cX0_init 53 = .ok (.putfield 34, 3) := by decide +kernel
theorem dX0_init_56 : decode cX0_init 56 = .ok (.aload_n 0, 1) := by decide +kernel
theorem dX0_init_57 : decode cX0_init 57 = .ok (.iconst 3, 1) := by decide +kernel
theorem dX0_init_58 : decode cX0_init 58 = .ok (.newarray .boolean, 2) := by decide +kernel
theorem dX0_init_60 : decode cX0_init 60 = .ok (.putfield 37, 3) := by decide +kernel
theorem dX0_init_63 : decode cX0_init 63 = .ok (.aload_n 0, 1) := by decide +kernel
theorem dX0_init_64 : decode cX0_init 64 = .ok (.iconst 0, 1) := by decide +kernel
theorem dX0_init_65 : decode cX0_init 65 = .ok (.putfield 41, 3) := by decide +kernel
theorem dX0_init_68 : decode cX0_init 68 = .ok (.aload_n 0, 1) := by decide +kernel
theorem dX0_init_69 : decode cX0_init 69 = .ok (.bipush 20, 2) := by decide +kernel
theorem dX0_init_71 : decode cX0_init 71 = .ok (.putfield 44, 3) := by decide +kernel
theorem dX0_init_74 : decode cX0_init 74 = .ok (.aload_n 0, 1) := by decide +kernel
theorem dX0_init_75 : decode cX0_init 75 = .ok (.iconst 0, 1) := by decide +kernel
theorem dX0_init_76 : decode cX0_init 76 = .ok (.putfield 47, 3) := by decide +kernel
theorem dX0_init_79 : decode cX0_init 79 = .ok (.aload_n 0, 1) := by decide +kernel
theorem dX0_init_80 : decode cX0_init 80 = .ok (.bipush 18, 2) := by decide +kernel
theorem dX0_init_82 : decode cX0_init 82 = .ok (.putfield 50, 3) := by decide +kernel
theorem dX0_init_85 : decode cX0_init 85 = .ok (.aload_n 0, 1) := by decide +kernel
theorem dX0_init_86 : decode cX0_init 86 = .ok (.iconst 0, 1) := by decide +kernel
theorem dX0_init_87 : decode cX0_init 87 = .ok (.putfield 53, 3) := by decide +kernel
theorem dX0_init_90 : decode cX0_init 90 = .ok (.aload_n 0, 1) := by decide +kernel
theorem dX0_init_91 : decode cX0_init 91 = .ok (.iconst 0, 1) := by decide +kernel
theorem dX0_init_92 : decode cX0_init 92 = .ok (.putfield 56, 3) := by decide +kernel
theorem dX0_init_95 : decode cX0_init 95 = .ok (.aload_n 0, 1) := by decide +kernel
theorem dX0_init_96 : decode cX0_init 96 = .ok (.iconst 0, 1) := by decide +kernel
theorem dX0_init_97 : decode cX0_init 97 = .ok (.putfield 59, 3) := by decide +kernel
theorem dX0_init_100 : decode cX0_init 100 = .ok (.return_, 1) := by decide +kernel
theorem dX0_clear_0 : decode cX0_clear 0 = .ok (.aload_n 0, 1) := by decide +kernel
theorem dX0_clear_1 : decode cX0_clear 1 = .ok (.iconst 0, 1) := by decide +kernel
theorem dX0_clear_2 : decode cX0_clear 2 = .ok (.putfield 9, 3) := by decide +kernel
theorem dX0_clear_5 : decode cX0_clear 5 = .ok (.aload_n 0, 1) := by decide +kernel
theorem dX0_clear_6 : decode cX0_clear 6 = .ok (.iconst 0, 1) := by decide +kernel
theorem dX0_clear_7 : decode cX0_clear 7 = .ok (.putfield 25, 3) := by decide +kernel
theorem dX0_clear_10 : decode cX0_clear 10 = .ok (.aload_n 0, 1) := by decide +kernel
theorem dX0_clear_11 : decode cX0_clear 11 = .ok (.iconst 0, 1) := by decide +kernel
theorem dX0_clear_12 : decode cX0_clear 12 = .ok (.putfield 41, 3) := by decide +kernel
theorem dX0_clear_15 : decode cX0_clear 15 = .ok (.aload_n 0, 1) := by decide +kernel
theorem dX0_clear_16 : decode cX0_clear 16 = .ok (.bipush 20, 2) := by decide +kernel
theorem dX0_clear_18 : decode cX0_clear 18 = .ok (.putfield 44, 3) := by decide +kernel
theorem dX0_clear_21 : decode cX0_clear 21 = .ok (.aload_n 0, 1) := by decide +kernel
theorem dX0_clear_22 : decode cX0_clear 22 = .ok (.iconst 0, 1) := by decide +kernel
theorem dX0_clear_23 : decode cX0_clear 23 = .ok (.putfield 47, 3) := by decide +kernel
theorem dX0_clear_26 : decode cX0_clear 26 = .ok (.aload_n 0, 1) := by decide +kernel
theorem dX0_clear_27 : decode cX0_clear 27 = .ok (.bipush 18, 2) := by decide +kernel
theorem dX0_clear_29 : decode cX0_clear 29 = .ok (.putfield 50, 3) := by decide +kernel
theorem dX0_clear_32 : decode cX0_clear 32 = .ok (.aload_n 0, 1) := by decide +kernel
theorem dX0_clear_33 : decode cX0_clear 33 = .ok (.iconst 0, 1) := by decide +kernel
theorem dX0_clear_34 : decode cX0_clear 34 = .ok (.putfield 53, 3) := by decide +kernel
theorem dX0_clear_37 : decode cX0_clear 37 = .ok (.aload_n 0, 1) := by decide +kernel
theorem dX0_clear_38 : decode cX0_clear 38 = .ok (.iconst 0, 1) := by decide +kernel
theorem dX0_clear_39 : decode cX0_clear 39 = .ok (.putfield 56, 3) := by decide +kernel
theorem dX0_clear_42 : decode cX0_clear 42 = .ok (.aload_n 0, 1) := by decide +kernel
theorem dX0_clear_43 : decode cX0_clear 43 = .ok (.iconst 0, 1) := by decide +kernel
theorem dX0_clear_44 : decode cX0_clear 44 = .ok (.putfield 59, 3) := by decide +kernel
theorem dX0_clear_47 : decode cX0_clear 47 = .ok (.return_, 1) := by decide +kernel
theorem dX0_copyFrom_0 : decode cX0_copyFrom 0 = .ok (.aload_n 0, 1) := by decide +kernel
theorem dX0_copyFrom_1 : decode cX0_copyFrom 1 = .ok (.aload_n 1, 1) := by decide +kernel
theorem dX0_copyFrom_2 : decode cX0_copyFrom 2 = .ok (.getfield 9, 3) := by decide +kernel
theorem dX0_copyFrom_5 : decode cX0_copyFrom 5 = .ok (.putfield 9, 3) := by decide +kernel
theorem dX0_copyFrom_8 : decode cX0_copyFrom 8 = .ok (.aload_n 0, 1) := by decide +kernel
theorem dX0_copyFrom_9 : decode cX0_copyFrom 9 = .ok (.aload_n 1, 1) := by decide +kernel
theorem dX0_copyFrom_10 : decode cX0_copyFrom 10 = .ok (.getfield 25, 3) := by decide +kernel
theorem dX0_copyFrom_13 : decode cX0_copyFrom 13 = .ok (.putfield 25, 3) := by decide +kernel
theorem dX0_copyFrom_16 : decode cX0_copyFrom 16 = .ok (.aload_n 0, 1) := by decide +kernel
theorem dX0_copyFrom_17 : decode cX0_copyFrom 17 = .ok (.aload_n 1, 1) := by decide +kernel
theorem dX0_copyFrom_18 : decode cX0_copyFrom 18 = .ok (.getfield 41, 3) := by decide +kernel
theorem dX0_copyFrom_21 : decode cX0_copyFrom 21 = .ok (.putfield 41, 3) := by decide +kernel
theorem dX0_copyFrom_24 : decode cX0_copyFrom 24 = .ok (.aload_n 0, 1) := by decide +kernel
theorem dX0_copyFrom_25 : decode cX0_copyFrom 25 = .ok (.aload_n 1, 1) := by decide +kernel
theorem dX0_copyFrom_26 : decode cX0_copyFrom 26 = .ok (.getfield 44, 3) := by decide +kernel
theorem dX0_copyFrom_29 : decode cX0_copyFrom 29 = .ok (.putfield 44, 3) := by decide +kernel
theorem dX0_copyFrom_32 : decode cX0_copyFrom 32 = .ok (.aload_n 0, 1) := by decide +kernel
theorem dX0_copyFrom_33 : decode cX0_copyFrom 33 = .ok (.aload_n 1, 1) := by decide +kernel
theorem dX0_copyFrom_34 : decode cX0_copyFrom 34 = .ok (.getfield 47, 3) := by decide +kernel
theorem dX0_copyFrom_37 : decode cX0_copyFrom 37 = .ok (.putfield 47, 3) := by decide +kernel
theorem dX0_copyFrom_40 : decode cX0_copyFrom 40 = .ok (.aload_n 0, 1) := by decide +kernel
theorem dX0_copyFrom_41 : decode cX0_copyFrom 41 = .ok (.aload_n 1, 1) := by decide +kernel
theorem dX0_copyFrom_42 : decode cX0_copyFrom 42 = .ok (.getfield 50, 3) := by decide +kernel
theorem dX0_copyFrom_45 : decode cX0_copyFrom 45 = .ok (.putfield 50, 3) := by decide +kernel
theorem dX0_copyFrom_48 : decode cX0_copyFrom 48 = .ok (.aload_n 0, 1) := by decide +kernel
theorem dX0_copyFrom_49 : decode cX0_copyFrom 49 = .ok (.aload_n 1, 1) := by decide +kernel
theorem dX0_copyFrom_50 : decode cX0_copyFrom 50 = .ok (.getfield 53, 3) := by decide +kernel
theorem dX0_copyFrom_53 : decode cX0_copyFrom 53 = .ok (.putfield 53, 3) := by decide +kernel
theorem dX0_copyFrom_56 : decode cX0_copyFrom 56 = .ok (.aload_n 0, 1) := by decide +kernel
theorem dX0_copyFrom_57 : decode cX0_copyFrom 57 = .ok (.aload_n 1, 1) := by decide +kernel
theorem dX0_copyFrom_58 : decode cX0_copyFrom 58 = .ok (.getfield 56, 3) := by decide +kernel
theorem dX0_copyFrom_61 : decode cX0_copyFrom 61 = .ok (.putfield 56, 3) := by decide +kernel
theorem dX0_copyFrom_64 : decode cX0_copyFrom 64 = .ok (.aload_n 0, 1) := by decide +kernel
theorem dX0_copyFrom_65 : decode cX0_copyFrom 65 = .ok (.aload_n 1, 1) := by decide +kernel
theorem dX0_copyFrom_66 : decode cX0_copyFrom 66 = .ok (.getfield 59, 3) := by decide +kernel
theorem dX0_copyFrom_69 : decode cX0_copyFrom 69 = .ok (.putfield 59, 3) := by decide +kernel
theorem dX0_copyFrom_72 : decode cX0_copyFrom 72 = .ok (.iconst 0, 1) := by decide +kernel
theorem dX0_copyFrom_73 : decode cX0_copyFrom 73 = .ok (.istore_n 2, 1) := by decide +kernel
theorem dX0_copyFrom_74 : decode cX0_copyFrom 74 = .ok (.iload_n 2, 1) := by decide +kernel
theorem dX0_copyFrom_75 : decode cX0_copyFrom 75 = .ok (.aload_n 0, 1) := by decide +kernel
theorem dX0_copyFrom_76 : decode cX0_copyFrom 76 = .ok (.getfield 9, 3) := by decide +kernel
theorem dX0_copyFrom_79 : decode cX0_copyFrom 79 = .ok (.if_icmp .ge 45, 3) := by decide +kernel
theorem dX0_copyFrom_82 : decode cX0_copyFrom 82 = .ok (.aload_n 0, 1) := by decide +kernel
theorem dX0_copyFrom_83 : decode cX0_copyFrom 83 = .ok (.getfield 15, 3) := by decide +kernel
theorem dX0_copyFrom_86 : decode cX0_copyFrom 86 = .ok (.iload_n 2, 1) := by decide +kernel
theorem dX0_copyFrom_87 : decode cX0_copyFrom 87 = .ok (.aload_n 1, 1) := by decide +kernel
theorem dX0_copyFrom_88 : decode cX0_copyFrom 88 = .ok (.getfield 15, 3) := by decide +kernel
theorem dX0_copyFrom_91 : decode cX0_copyFrom 91 = .ok (.iload_n 2, 1) := by decide +kernel
theorem dX0_copyFrom_92 : decode cX0_copyFrom 92 = .ok (.iaload, 1) := by decide +kernel
theorem dX0_copyFrom_93 : decode cX0_copyFrom 93 = .ok (.iastore, 1) := by decide +kernel
theorem dX0_copyFrom_94 : decode cX0_copyFrom 94 = .ok (.aload_n 0, 1) := by decide +kernel
theorem dX0_copyFrom_95 : decode cX0_copyFrom 95 = .ok (.getfield 19, 3) := by decide +kernel
theorem dX0_copyFrom_98 : decode cX0_copyFrom 98 = .ok (.iload_n 2, 1) := by decide +kernel
theorem dX0_copyFrom_99 : decode cX0_copyFrom 99 = .ok (.aload_n 1, 1) := by decide +kernel
theorem dX0_copyFrom_100 : decode cX0_copyFrom 100 = .ok (.getfield 19, 3) := by decide +kernel
theorem dX0_copyFrom_103 : decode cX0_copyFrom 103 = .ok (.iload_n 2, 1) := by decide +kernel
theorem dX0_copyFrom_104 : decode cX0_copyFrom 104 = .ok (.iaload, 1) := by decide +kernel
theorem dX0_copyFrom_105 : decode cX0_copyFrom 105 = .ok (.iastore, 1) := by decide +kernel
theorem dX0_copyFrom_106 : decode cX0_copyFrom 106 = .ok (.aload_n 0, 1) := by decide +kernel
theorem dX0_copyFrom_107 : decode cX0_copyFrom 107 = .ok (.getfield 22, 3) := by decide +kernel
theorem dX0_copyFrom_110 : decode cX0_copyFrom 110 = .ok (.iload_n 2, 1) := by decide +kernel
theorem dX0_copyFrom_111 : decode cX0_copyFrom 111 = .ok (.aload_n 1, 1) := by decide +kernel
theorem dX0_copyFrom_112 : decode cX0_copyFrom 112 = .ok (.getfield 22, 3) := by decide +kernel
theorem dX0_copyFrom_115 : decode cX0_copyFrom 115 = .ok (.iload_n 2, 1) := by decide +kernel
theorem dX0_copyFrom_116 : decode cX0_copyFrom 116 = .ok (.iaload, 1) := by decide +kernel
theorem dX0_copyFrom_117 : decode cX0_copyFrom 117 = .ok (.iastore, 1) := by decide +kernel
theorem dX0_copyFrom_118 : decode cX0_copyFrom 118 = .ok (.iinc 2 1, 3) := by decide +kernel
theorem dX0_copyFrom_121 : decode cX0_copyFrom 121 = .ok (.goto (-47), 3) := by decide +kernel
theorem dX0_copyFrom_124 : decode cX0_copyFrom 124 = .ok (.iconst 0, 1) := by decide +kernel
theorem dX0_copyFrom_125 : decode cX0_copyFrom 125 = .ok (.istore_n 2, 1) := by decide +kernel
theorem dX0_copyFrom_126 : decode cX0_copyFrom 126 = .ok (.iload_n 2, 1) := by decide +kernel
theorem dX0_copyFrom_127 : decode cX0_copyFrom 127 = .ok (.aload_n 0, 1) := by decide +kernel
theorem dX0_copyFrom_128 : decode cX0_copyFrom 128 = .ok (.getfield 25, 3) := by decide +kernel
theorem dX0_copyFrom_131 : decode cX0_copyFrom 131 = .ok (.if_icmp .ge 57, 3) := by decide +kernel
theorem dX0_copyFrom_134 : decode cX0_copyFrom 134 = .ok (.aload_n 0, 1) := by decide +kernel
theorem dX0_copyFrom_135 : decode cX0_copyFrom 135 = .ok (.getfield 28, 3) := by decide +kernel
theorem dX0_copyFrom_138 : decode cX0_copyFrom 138 = .ok (.iload_n 2, 1) := by decide +kernel
theorem dX0_copyFrom_139 : decode cX0_copyFrom 139 = .ok (.aload_n 1, 1) := by decide +kernel
theorem dX0_copyFrom_140 : decode cX0_copyFrom 140 = .ok (.getfield 28, 3) := by decide +kernel
theorem dX0_copyFrom_143 : decode cX0_copyFrom 143 = .ok (.iload_n 2, 1) := by decide +kernel
theorem dX0_copyFrom_144 : decode cX0_copyFrom 144 = .ok (.iaload, 1) := by decide +kernel
theorem dX0_copyFrom_145 : decode cX0_copyFrom 145 = .ok (.iastore, 1) := by decide +kernel
theorem dX0_copyFrom_146 : decode cX0_copyFrom 146 = .ok (.aload_n 0, 1) := by decide +kernel
theorem dX0_copyFrom_147 : decode cX0_copyFrom 147 = .ok (.getfield 31, 3) := by decide +kernel
theorem dX0_copyFrom_150 : decode cX0_copyFrom 150 = .ok (.iload_n 2, 1) := by decide +kernel
theorem dX0_copyFrom_151 : decode cX0_copyFrom 151 = .ok (.aload_n 1, 1) := by decide +kernel
theorem dX0_copyFrom_152 : decode cX0_copyFrom 152 = .ok (.getfield 31, 3) := by decide +kernel
theorem dX0_copyFrom_155 : decode cX0_copyFrom 155 = .ok (.iload_n 2, 1) := by decide +kernel
theorem dX0_copyFrom_156 : decode cX0_copyFrom 156 = .ok (.iaload, 1) := by decide +kernel
theorem dX0_copyFrom_157 : decode cX0_copyFrom 157 = .ok (.iastore, 1) := by decide +kernel
theorem dX0_copyFrom_158 : decode cX0_copyFrom 158 = .ok (.aload_n 0, 1) := by decide +kernel
theorem dX0_copyFrom_159 : decode cX0_copyFrom 159 = .ok (.getfield 34, 3) := by decide +kernel
theorem dX0_copyFrom_162 : decode cX0_copyFrom 162 = .ok (.iload_n 2, 1) := by decide +kernel
theorem dX0_copyFrom_163 : decode cX0_copyFrom 163 = .ok (.aload_n 1, 1) := by decide +kernel
theorem dX0_copyFrom_164 : decode cX0_copyFrom 164 = .ok (.getfield 34, 3) := by decide +kernel
theorem dX0_copyFrom_167 : decode cX0_copyFrom 167 = .ok (.iload_n 2, 1) := by decide +kernel
theorem dX0_copyFrom_168 : decode cX0_copyFrom 168 = .ok (.iaload, 1) := by decide +kernel
theorem dX0_copyFrom_169 : decode cX0_copyFrom 169 = .ok (.iastore, 1) := by decide +kernel
theorem dX0_copyFrom_170 : decode cX0_copyFrom 170 = .ok (.aload_n 0, 1) := by decide +kernel
theorem dX0_copyFrom_171 : decode cX0_copyFrom 171 = .ok (.getfield 37, 3) := by decide +kernel
theorem dX0_copyFrom_174 : decode cX0_copyFrom 174 = .ok (.iload_n 2, 1) := by decide +kernel
theorem dX0_copyFrom_175 : decode cX0_copyFrom 175 = .ok (.aload_n 1, 1) := by decide +kernel
theorem dX0_copyFrom_176 : decode cX0_copyFrom 176 = .ok (.getfield 37, 3) := by decide +kernel
theorem dX0_copyFrom_179 : decode cX0_copyFrom 179 = .ok (.iload_n 2, 1) := by decide +kernel
theorem dX0_copyFrom_180 : decode cX0_copyFrom 180 = .ok (.baload, 1) := by decide +kernel
theorem dX0_copyFrom_181 : decode cX0_copyFrom 181 = .ok (.bastore, 1) := by decide +kernel
theorem dX0_copyFrom_182 : decode cX0_copyFrom 182 = .ok (.iinc 2 1, 3) := by decide +kernel
theorem dX0_copyFrom_185 : decode cX0_copyFrom 185 = .ok (.goto (-59), 3) := by decide +kernel
theorem dX0_copyFrom_188 : decode cX0_copyFrom 188 = .ok (.return_, 1) := by decide +kernel
theorem dX0_leaveOnly_0 : decode cX0_leaveOnly 0 = .ok (.aload_n 0, 1) := by decide +kernel
theorem dX0_leaveOnly_1 : decode cX0_leaveOnly 1 = .ok (.getfield 15, 3) := by decide +kernel
theorem dX0_leaveOnly_4 : decode cX0_leaveOnly 4 = .ok (.iconst 0, 1) := by decide +kernel
theorem dX0_leaveOnly_5 : decode cX0_leaveOnly 5 = .ok (.aload_n 0, 1) := by decide +kernel
theorem dX0_leaveOnly_6 : decode cX0_leaveOnly 6 = .ok (.getfield 15, 3) := by decide +kernel
theorem dX0_leaveOnly_9 : decode cX0_leaveOnly 9 = .ok (.iload_n 1, 1) := by decide +kernel
theorem dX0_leaveOnly_10 : decode cX0_leaveOnly 10 = .ok (.iaload, 1) := by decide +kernel
theorem dX0_leaveOnly_11 : decode cX0_leaveOnly 11 = .ok (.iastore, 1) := by decide +kernel
theorem dX0_leaveOnly_12 : decode cX0_leaveOnly 12 = .ok (.aload_n 0, 1) := by decide +kernel
theorem dX0_leaveOnly_13 : decode cX0_leaveOnly 13 = .ok (.getfield 19, 3) := by decide +kernel
theorem dX0_leaveOnly_16 : decode cX0_leaveOnly 16 = .ok (.iconst 0, 1) := by decide +kernel
theorem dX0_leaveOnly_17 : decode cX0_leaveOnly 17 = .ok (.aload_n 0, 1) := by decide +kernel
theorem dX0_leaveOnly_18 : decode cX0_leaveOnly 18 = .ok (.getfield 19, 3) := by decide +kernel
theorem dX0_leaveOnly_21 : decode cX0_leaveOnly 21 = .ok (.iload_n 1, 1) := by decide +kernel
theorem dX0_leaveOnly_22 : decode cX0_leaveOnly 22 = .ok (.iaload, 1) := by decide +kernel
theorem dX0_leaveOnly_23 : decode cX0_leaveOnly 23 = .ok (.iastore, 1) := by decide +kernel
theorem dX0_leaveOnly_24 : decode cX0_leaveOnly 24 = .ok (.aload_n 0, 1) := by decide +kernel
theorem dX0_leaveOnly_25 : decode cX0_leaveOnly 25 = .ok (.getfield 22, 3) := by decide +kernel
theorem dX0_leaveOnly_28 : decode cX0_leaveOnly 28 = .ok (.iconst 0, 1) := by decide +kernel
theorem dX0_leaveOnly_29 : decode cX0_leaveOnly 29 = .ok (.aload_n 0, 1) := by decide +kernel
theorem dX0_leaveOnly_30 : decode cX0_leaveOnly 30 = .ok (.getfield 22, 3) := by decide +kernel
theorem dX0_leaveOnly_33 : decode cX0_leaveOnly 33 = .ok (.iload_n 1, 1) := by decide +kernel
theorem dX0_leaveOnly_34 : decode cX0_leaveOnly 34 = .ok (.iaload, 1) := by decide +kernel
theorem dX0_leaveOnly_35 : decode cX0_leaveOnly 35 = .ok (.iastore, 1) := by decide +kernel
theorem dX0_leaveOnly_36 : decode cX0_leaveOnly 36 = .ok (.aload_n 0, 1) := by decide +kernel
theorem dX0_leaveOnly_37 : decode cX0_leaveOnly 37 = .ok (.iconst 1, 1) := by decide +kernel
theorem dX0_leaveOnly_38 : decode cX0_leaveOnly 38 = .ok (.putfield 9, 3) := by decide +kernel
theorem dX0_leaveOnly_41 : decode cX0_leaveOnly 41 = .ok (.return_, 1) := by decide +kernel
theorem dX0_isDown_0 : decode cX0_isDown 0 = .ok (.aload_n 0, 1) := by decide +kernel
theorem dX0_isDown_1 : decode cX0_isDown 1 = .ok (.getfield 22, 3) := by decide +kernel
theorem dX0_isDown_4 : decode cX0_isDown 4 = .ok (.iload_n 1, 1) := by decide +kernel
theorem dX0_isDown_5 : decode cX0_isDown 5 = .ok (.iaload, 1) := by decide +kernel
theorem dX0_isDown_6 : decode cX0_isDown 6 = .ok (.ifCond .ne 7, 3) := by decide +kernel
theorem dX0_isDown_9 : decode cX0_isDown 9 = .ok (.iconst 1, 1) := by decide +kernel
theorem dX0_isDown_10 : decode cX0_isDown 10 = .ok (.goto 4, 3) := by decide +kernel
theorem dX0_isDown_13 : decode cX0_isDown 13 = .ok (.iconst 0, 1) := by decide +kernel
theorem dX0_isDown_14 : decode cX0_isDown 14 = .ok (.ireturn, 1) := by decide +kernel
theorem dX0_standing_0 : decode cX0_standing 0 = .ok (.iconst 0, 1) := by decide +kernel
theorem dX0_standing_1 : decode cX0_standing 1 = .ok (.istore_n 1, 1) := by decide +kernel
theorem dX0_standing_2 : decode cX0_standing 2 = .ok (.iconst 0, 1) := by decide +kernel
theorem dX0_standing_3 : decode cX0_standing 3 = .ok (.istore_n 2, 1) := by decide +kernel
theorem dX0_standing_4 : decode cX0_standing 4 = .ok (.iload_n 2, 1) := by decide +kernel
theorem dX0_standing_5 : decode cX0_standing 5 = .ok (.aload_n 0, 1) := by decide +kernel
theorem dX0_standing_6 : decode cX0_standing 6 = .ok (.getfield 9, 3) := by decide +kernel
theorem dX0_standing_9 : decode cX0_standing 9 = .ok (.if_icmp .ge 25, 3) := by decide +kernel
theorem dX0_standing_12 : decode cX0_standing 12 = .ok (.iload_n 1, 1) := by decide +kernel
theorem dX0_standing_13 : decode cX0_standing 13 = .ok (.aload_n 0, 1) := by decide +kernel
theorem dX0_standing_14 : decode cX0_standing 14 = .ok (.iload_n 2, 1) := by decide +kernel
theorem dX0_standing_15 : decode cX0_standing 15 = .ok (.invokevirtual 62, 3) := by decide +kernel
theorem dX0_standing_18 : decode cX0_standing 18 = .ok (.ifCond .eq 7, 3) := by decide +kernel
theorem dX0_standing_21 : decode cX0_standing 21 = .ok (.iconst 0, 1) := by decide +kernel
theorem dX0_standing_22 : decode cX0_standing 22 = .ok (.goto 4, 3) := by decide +kernel
theorem dX0_standing_25 : decode cX0_standing 25 = .ok (.iconst 1, 1) := by decide +kernel
theorem dX0_standing_26 : decode cX0_standing 26 = .ok (.iadd, 1) := by decide +kernel
theorem dX0_standing_27 : decode cX0_standing 27 = .ok (.istore_n 1, 1) := by decide +kernel
theorem dX0_standing_28 : decode cX0_standing 28 = .ok (.iinc 2 1, 3) := by decide +kernel
theorem dX0_standing_31 : decode cX0_standing 31 = .ok (.goto (-27), 3) := by decide +kernel
theorem dX0_standing_34 : decode cX0_standing 34 = .ok (.iload_n 1, 1) := by decide +kernel
theorem dX0_standing_35 : decode cX0_standing 35 = .ok (.ireturn, 1) := by decide +kernel
theorem dX0_allLevels_0 : decode cX0_allLevels 0 = .ok (.iconst 0, 1) := by decide +kernel
theorem dX0_allLevels_1 : decode cX0_allLevels 1 = .ok (.istore_n 1, 1) := by decide +kernel
theorem dX0_allLevels_2 : decode cX0_allLevels 2 = .ok (.iconst 0, 1) := by decide +kernel
theorem dX0_allLevels_3 : decode cX0_allLevels 3 = .ok (.istore_n 2, 1) := by decide +kernel
theorem dX0_allLevels_4 : decode cX0_allLevels 4 = .ok (.iload_n 2, 1) := by decide +kernel
theorem dX0_allLevels_5 : decode cX0_allLevels 5 = .ok (.aload_n 0, 1) := by decide +kernel
theorem dX0_allLevels_6 : decode cX0_allLevels 6 = .ok (.getfield 9, 3) := by decide +kernel
theorem dX0_allLevels_9 : decode cX0_allLevels 9 = .ok (.if_icmp .ge 18, 3) := by decide +kernel
theorem dX0_allLevels_12 : decode cX0_allLevels 12 = .ok (.iload_n 1, 1) := by decide +kernel
theorem dX0_allLevels_13 : decode cX0_allLevels 13 = .ok (.aload_n 0, 1) := by decide +kernel
theorem dX0_allLevels_14 : decode cX0_allLevels 14 = .ok (.getfield 22, 3) := by decide +kernel
theorem dX0_allLevels_17 : decode cX0_allLevels 17 = .ok (.iload_n 2, 1) := by decide +kernel
theorem dX0_allLevels_18 : decode cX0_allLevels 18 = .ok (.iaload, 1) := by decide +kernel
theorem dX0_allLevels_19 : decode cX0_allLevels 19 = .ok (.iadd, 1) := by decide +kernel
theorem dX0_allLevels_20 : decode cX0_allLevels 20 = .ok (.istore_n 1, 1) := by decide +kernel
theorem dX0_allLevels_21 : decode cX0_allLevels 21 = .ok (.iinc 2 1, 3) := by decide +kernel
theorem dX0_allLevels_24 : decode cX0_allLevels 24 = .ok (.goto (-20), 3) := by decide +kernel
theorem dX0_allLevels_27 : decode cX0_allLevels 27 = .ok (.iload_n 1, 1) := by decide +kernel
theorem dX0_allLevels_28 : decode cX0_allLevels 28 = .ok (.ireturn, 1) := by decide +kernel
theorem dX0_wetWells_0 : decode cX0_wetWells 0 = .ok (.iconst 0, 1) := by decide +kernel
theorem dX0_wetWells_1 : decode cX0_wetWells 1 = .ok (.istore_n 1, 1) := by decide +kernel
theorem dX0_wetWells_2 : decode cX0_wetWells 2 = .ok (.iconst 0, 1) := by decide +kernel
theorem dX0_wetWells_3 : decode cX0_wetWells 3 = .ok (.istore_n 2, 1) := by decide +kernel
theorem dX0_wetWells_4 : decode cX0_wetWells 4 = .ok (.iload_n 2, 1) := by decide +kernel
theorem dX0_wetWells_5 : decode cX0_wetWells 5 = .ok (.aload_n 0, 1) := by decide +kernel
theorem dX0_wetWells_6 : decode cX0_wetWells 6 = .ok (.getfield 25, 3) := by decide +kernel
theorem dX0_wetWells_9 : decode cX0_wetWells 9 = .ok (.if_icmp .ge 26, 3) := by decide +kernel
theorem dX0_wetWells_12 : decode cX0_wetWells 12 = .ok (.iload_n 1, 1) := by decide +kernel
theorem dX0_wetWells_13 : decode cX0_wetWells 13 = .ok (.aload_n 0, 1) := by decide +kernel
theorem dX0_wetWells_14 : decode cX0_wetWells 14 = .ok (.getfield 37, 3) := by decide +kernel
theorem dX0_wetWells_17 : decode cX0_wetWells 17 = .ok (.iload_n 2, 1) := by decide +kernel
theorem dX0_wetWells_18 : decode cX0_wetWells 18 = .ok (.baload, 1) := by decide +kernel
theorem dX0_wetWells_19 : decode cX0_wetWells 19 = .ok (.ifCond .eq 7, 3) := by decide +kernel
theorem dX0_wetWells_22 : decode cX0_wetWells 22 = .ok (.iconst 1, 1) := by decide +kernel
theorem dX0_wetWells_23 : decode cX0_wetWells 23 = .ok (.goto 4, 3) := by decide +kernel
theorem dX0_wetWells_26 : decode cX0_wetWells 26 = .ok (.iconst 0, 1) := by decide +kernel
theorem dX0_wetWells_27 : decode cX0_wetWells 27 = .ok (.iadd, 1) := by decide +kernel
theorem dX0_wetWells_28 : decode cX0_wetWells 28 = .ok (.istore_n 1, 1) := by decide +kernel
theorem dX0_wetWells_29 : decode cX0_wetWells 29 = .ok (.iinc 2 1, 3) := by decide +kernel
theorem dX0_wetWells_32 : decode cX0_wetWells 32 = .ok (.goto (-28), 3) := by decide +kernel
theorem dX0_wetWells_35 : decode cX0_wetWells 35 = .ok (.iload_n 1, 1) := by decide +kernel
theorem dX0_wetWells_36 : decode cX0_wetWells 36 = .ok (.ireturn, 1) := by decide +kernel
theorem dX0_isAtGoal_0 : decode cX0_isAtGoal 0 = .ok (.aload_n 0, 1) := by decide +kernel
theorem dX0_isAtGoal_1 : decode cX0_isAtGoal 1 = .ok (.getfield 47, 3) := by decide +kernel
theorem dX0_isAtGoal_4 : decode cX0_isAtGoal 4 = .ok (.aload_n 0, 1) := by decide +kernel
theorem dX0_isAtGoal_5 : decode cX0_isAtGoal 5 = .ok (.getfield 44, 3) := by decide +kernel
theorem dX0_isAtGoal_8 : decode cX0_isAtGoal 8 = .ok (.if_icmp .lt 7, 3) := by decide +kernel
theorem dX0_isAtGoal_11 : decode cX0_isAtGoal 11 = .ok (.iconst 1, 1) := by decide +kernel
theorem dX0_isAtGoal_12 : decode cX0_isAtGoal 12 = .ok (.goto 4, 3) := by decide +kernel
theorem dX0_isAtGoal_15 : decode cX0_isAtGoal 15 = .ok (.iconst 0, 1) := by decide +kernel
theorem dX0_isAtGoal_16 : decode cX0_isAtGoal 16 = .ok (.ireturn, 1) := by decide +kernel
theorem dX0_isDay_0 : decode cX0_isDay 0 = .ok (.aload_n 0, 1) := by decide +kernel
theorem dX0_isDay_1 : decode cX0_isDay 1 = .ok (.getfield 50, 3) := by decide +kernel
theorem dX0_isDay_4 : decode cX0_isDay 4 = .ok (.bipush 24, 2) := by decide +kernel
theorem dX0_isDay_6 : decode cX0_isDay 6 = .ok (.irem, 1) := by decide +kernel
theorem dX0_isDay_7 : decode cX0_isDay 7 = .ok (.istore_n 1, 1) := by decide +kernel
theorem dX0_isDay_8 : decode cX0_isDay 8 = .ok (.iload_n 1, 1) := by decide +kernel
theorem dX0_isDay_9 : decode cX0_isDay 9 = .ok (.bipush 6, 2) := by decide +kernel
theorem dX0_isDay_11 : decode cX0_isDay 11 = .ok (.if_icmp .lt 13, 3) := by decide +kernel
theorem dX0_isDay_14 : decode cX0_isDay 14 = .ok (.iload_n 1, 1) := by decide +kernel
theorem dX0_isDay_15 : decode cX0_isDay 15 = .ok (.bipush 17, 2) := by decide +kernel
theorem dX0_isDay_17 : decode cX0_isDay 17 = .ok (.if_icmp .gt 7, 3) := by decide +kernel
theorem dX0_isDay_20 : decode cX0_isDay 20 = .ok (.iconst 1, 1) := by decide +kernel
theorem dX0_isDay_21 : decode cX0_isDay 21 = .ok (.goto 4, 3) := by decide +kernel
theorem dX0_isDay_24 : decode cX0_isDay 24 = .ok (.iconst 0, 1) := by decide +kernel
theorem dX0_isDay_25 : decode cX0_isDay 25 = .ok (.ireturn, 1) := by decide +kernel
theorem dX0_pourer_0 : decode cX0_pourer 0 = .ok (.aload_n 0, 1) := by decide +kernel
theorem dX0_pourer_1 : decode cX0_pourer 1 = .ok (.getfield 9, 3) := by decide +kernel
theorem dX0_pourer_4 : decode cX0_pourer 4 = .ok (.ifCond .le 15, 3) := by decide +kernel
theorem dX0_pourer_7 : decode cX0_pourer 7 = .ok (.aload_n 0, 1) := by decide +kernel
theorem dX0_pourer_8 : decode cX0_pourer 8 = .ok (.getfield 50, 3) := by decide +kernel
theorem dX0_pourer_11 : decode cX0_pourer 11 = .ok (.aload_n 0, 1) := by decide +kernel
theorem dX0_pourer_12 : decode cX0_pourer 12 = .ok (.getfield 9, 3) := by decide +kernel
theorem dX0_pourer_15 : decode cX0_pourer 15 = .ok (.irem, 1) := by decide +kernel
theorem dX0_pourer_16 : decode cX0_pourer 16 = .ok (.goto 5, 3) := by decide +kernel
theorem dX0_pourer_19 : decode cX0_pourer 19 = .ok (.bipush (-4), 2) := by decide +kernel
theorem dX0_pourer_21 : decode cX0_pourer 21 = .ok (.ireturn, 1) := by decide +kernel
theorem dX0_wanted_0 : decode cX0_wanted 0 = .ok (.aload_n 0, 1) := by decide +kernel
theorem dX0_wanted_1 : decode cX0_wanted 1 = .ok (.iload_n 1, 1) := by decide +kernel
theorem dX0_wanted_2 : decode cX0_wanted 2 = .ok (.invokevirtual 62, 3) := by decide +kernel
theorem dX0_wanted_5 : decode cX0_wanted 5 = .ok (.ifCond .eq 5, 3) := by decide +kernel
theorem dX0_wanted_8 : decode cX0_wanted 8 = .ok (.iconst 0, 1) := by decide +kernel
theorem dX0_wanted_9 : decode cX0_wanted 9 = .ok (.ireturn, 1) := by decide +kernel
theorem dX0_wanted_10 : decode cX0_wanted 10 = .ok (.aload_n 0, 1) := by decide +kernel
theorem dX0_wanted_11 : decode cX0_wanted 11 = .ok (.getfield 15, 3) := by decide +kernel
theorem dX0_wanted_14 : decode cX0_wanted 14 = .ok (.iload_n 1, 1) := by decide +kernel
theorem dX0_wanted_15 : decode cX0_wanted 15 = .ok (.iaload, 1) := by decide +kernel
theorem dX0_wanted_16 : decode cX0_wanted 16 = .ok (.tableswitch 72 1 3 #[28, 42, 56], 28) := by decide +kernel
theorem dX0_wanted_44 : decode cX0_wanted 44 = .ok (.iconst 0, 1) := by decide +kernel
theorem dX0_wanted_45 : decode cX0_wanted 45 = .ok (.bipush 10, 2) := by decide +kernel
theorem dX0_wanted_47 : decode cX0_wanted 47 = .ok (.aload_n 0, 1) := by decide +kernel
theorem dX0_wanted_48 : decode cX0_wanted 48 = .ok (.getfield 22, 3) := by decide +kernel
theorem dX0_wanted_51 : decode cX0_wanted 51 = .ok (.iload_n 1, 1) := by decide +kernel
theorem dX0_wanted_52 : decode cX0_wanted 52 = .ok (.iaload, 1) := by decide +kernel
theorem dX0_wanted_53 : decode cX0_wanted 53 = .ok (.isub, 1) := by decide +kernel
theorem dX0_wanted_54 : decode cX0_wanted 54 = .ok (.invokestatic 66, 3) := by decide +kernel
theorem dX0_wanted_57 : decode cX0_wanted 57 = .ok (.ireturn, 1) := by decide +kernel
theorem dX0_wanted_58 : decode cX0_wanted 58 = .ok (.aload_n 0, 1) := by decide +kernel
theorem dX0_wanted_59 : decode cX0_wanted 59 = .ok (.invokevirtual 72, 3) := by decide +kernel
theorem dX0_wanted_62 : decode cX0_wanted 62 = .ok (.iload_n 1, 1) := by decide +kernel
theorem dX0_wanted_63 : decode cX0_wanted 63 = .ok (.if_icmp .ne 7, 3) := by decide +kernel
theorem dX0_wanted_66 : decode cX0_wanted 66 = .ok (.iconst 2, 1) := by decide +kernel
theorem dX0_wanted_67 : decode cX0_wanted 67 = .ok (.goto 4, 3) := by decide +kernel
theorem dX0_wanted_70 : decode cX0_wanted 70 = .ok (.iconst 1, 1) := by decide +kernel
theorem dX0_wanted_71 : decode cX0_wanted 71 = .ok (.ireturn, 1) := by decide +kernel
theorem dX0_wanted_72 : decode cX0_wanted 72 = .ok (.aload_n 0, 1) := by decide +kernel
theorem dX0_wanted_73 : decode cX0_wanted 73 = .ok (.getfield 22, 3) := by decide +kernel
theorem dX0_wanted_76 : decode cX0_wanted 76 = .ok (.iload_n 1, 1) := by decide +kernel
theorem dX0_wanted_77 : decode cX0_wanted 77 = .ok (.iaload, 1) := by decide +kernel
theorem dX0_wanted_78 : decode cX0_wanted 78 = .ok (.iconst 4, 1) := by decide +kernel
theorem dX0_wanted_79 : decode cX0_wanted 79 = .ok (.if_icmp .gt 7, 3) := by decide +kernel
theorem dX0_wanted_82 : decode cX0_wanted 82 = .ok (.iconst 2, 1) := by decide +kernel
theorem dX0_wanted_83 : decode cX0_wanted 83 = .ok (.goto 4, 3) := by decide +kernel
theorem dX0_wanted_86 : decode cX0_wanted 86 = .ok (.iconst 0, 1) := by decide +kernel
theorem dX0_wanted_87 : decode cX0_wanted 87 = .ok (.ireturn, 1) := by decide +kernel
theorem dX0_wanted_88 : decode cX0_wanted 88 = .ok (.iconst 1, 1) := by decide +kernel
theorem dX0_wanted_89 : decode cX0_wanted 89 = .ok (.ireturn, 1) := by decide +kernel
theorem dX0_drinkerFor_0 : decode cX0_drinkerFor 0 = .ok (.iload_n 1, 1) := by decide +kernel
theorem dX0_drinkerFor_1 : decode cX0_drinkerFor 1 = .ok (.istore_n 2, 1) := by decide +kernel
theorem dX0_drinkerFor_2 : decode cX0_drinkerFor 2 = .ok (.aload_n 0, 1) := by decide +kernel
theorem dX0_drinkerFor_3 : decode cX0_drinkerFor 3 = .ok (.getfield 15, 3) := by decide +kernel
theorem dX0_drinkerFor_6 : decode cX0_drinkerFor 6 = .ok (.iload_n 1, 1) := by decide +kernel
theorem dX0_drinkerFor_7 : decode cX0_drinkerFor 7 = .ok (.iaload, 1) := by decide +kernel
theorem dX0_drinkerFor_8 : decode cX0_drinkerFor 8 = .ok (.iconst 4, 1) := by decide +kernel
theorem dX0_drinkerFor_9 : decode cX0_drinkerFor 9 = .ok (.if_icmp .ne 44, 3) := by decide +kernel
theorem dX0_drinkerFor_12 : decode cX0_drinkerFor 12 = .ok (.iconst 0, 1) := by decide +kernel
theorem dX0_drinkerFor_13 : decode cX0_drinkerFor 13 = .ok (.istore_n 3, 1) := by decide +kernel
theorem dX0_drinkerFor_14 : decode cX0_drinkerFor 14 = .ok (.iload_n 3, 1) := by decide +kernel
theorem dX0_drinkerFor_15 : decode cX0_drinkerFor 15 = .ok (.aload_n 0, 1) := by decide +kernel
theorem dX0_drinkerFor_16 : decode cX0_drinkerFor 16 = .ok (.getfield 9, 3) := by decide +kernel
theorem dX0_drinkerFor_19 : decode cX0_drinkerFor 19 = .ok (.if_icmp .ge 34, 3) := by decide +kernel
theorem dX0_drinkerFor_22 : decode cX0_drinkerFor 22 = .ok (.aload_n 0, 1) := by decide +kernel
theorem dX0_drinkerFor_23 : decode cX0_drinkerFor 23 = .ok (.iload_n 3, 1) := by decide +kernel
theorem dX0_drinkerFor_24 : decode cX0_drinkerFor 24 = .ok (.invokevirtual 62, 3) := by decide +kernel
theorem dX0_drinkerFor_27 : decode cX0_drinkerFor 27 = .ok (.ifCond .ne 20, 3) := by decide +kernel
theorem dX0_drinkerFor_30 : decode cX0_drinkerFor 30 = .ok (.aload_n 0, 1) := by decide +kernel
theorem dX0_drinkerFor_31 : decode cX0_drinkerFor 31 = .ok (.getfield 22, 3) := by decide +kernel
theorem dX0_drinkerFor_34 : decode cX0_drinkerFor 34 = .ok (.iload_n 3, 1) := by decide +kernel
theorem dX0_drinkerFor_35 : decode cX0_drinkerFor 35 = .ok (.iaload, 1) := by decide +kernel
theorem dX0_drinkerFor_36 : decode cX0_drinkerFor 36 = .ok (.aload_n 0, 1) := by decide +kernel
theorem dX0_drinkerFor_37 : decode cX0_drinkerFor 37 = .ok (.getfield 22, 3) := by decide +kernel
theorem dX0_drinkerFor_40 : decode cX0_drinkerFor 40 = .ok (.iload_n 2, 1) := by decide +kernel
theorem dX0_drinkerFor_41 : decode cX0_drinkerFor 41 = .ok (.iaload, 1) := by decide +kernel
theorem dX0_drinkerFor_42 : decode cX0_drinkerFor 42 = .ok (.if_icmp .ge 5, 3) := by decide +kernel
theorem dX0_drinkerFor_45 : decode cX0_drinkerFor 45 = .ok (.iload_n 3, 1) := by decide +kernel
theorem dX0_drinkerFor_46 : decode cX0_drinkerFor 46 = .ok (.istore_n 2, 1) := by decide +kernel
theorem dX0_drinkerFor_47 : decode cX0_drinkerFor 47 = .ok (.iinc 3 1, 3) := by decide +kernel
theorem dX0_drinkerFor_50 : decode cX0_drinkerFor 50 = .ok (.goto (-36), 3) := by decide +kernel
theorem dX0_drinkerFor_53 : decode cX0_drinkerFor 53 = .ok (.iload_n 2, 1) := by decide +kernel
theorem dX0_drinkerFor_54 : decode cX0_drinkerFor 54 = .ok (.ireturn, 1) := by decide +kernel
theorem dX0_loss_0 : decode cX0_loss 0 = .ok (.aload_n 0, 1) := by decide +kernel
theorem dX0_loss_1 : decode cX0_loss 1 = .ok (.iload_n 1, 1) := by decide +kernel
theorem dX0_loss_2 : decode cX0_loss 2 = .ok (.invokevirtual 62, 3) := by decide +kernel
theorem dX0_loss_5 : decode cX0_loss 5 = .ok (.ifCond .eq 5, 3) := by decide +kernel
theorem dX0_loss_8 : decode cX0_loss 8 = .ok (.iconst 0, 1) := by decide +kernel
theorem dX0_loss_9 : decode cX0_loss 9 = .ok (.ireturn, 1) := by decide +kernel
theorem dX0_loss_10 : decode cX0_loss 10 = .ok (.aload_n 0, 1) := by decide +kernel
theorem dX0_loss_11 : decode cX0_loss 11 = .ok (.invokevirtual 76, 3) := by decide +kernel
theorem dX0_loss_14 : decode cX0_loss 14 = .ok (.ifCond .eq 7, 3) := by decide +kernel
theorem dX0_loss_17 : decode cX0_loss 17 = .ok (.iconst 1, 1) := by decide +kernel
theorem dX0_loss_18 : decode cX0_loss 18 = .ok (.goto 4, 3) := by decide +kernel
theorem dX0_loss_21 : decode cX0_loss 21 = .ok (.iconst 0, 1) := by decide +kernel
theorem dX0_loss_22 : decode cX0_loss 22 = .ok (.iload_n 2, 1) := by decide +kernel
theorem dX0_loss_23 : decode cX0_loss 23 = .ok (.ifCond .eq 7, 3) := by decide +kernel
theorem dX0_loss_26 : decode cX0_loss 26 = .ok (.iconst 1, 1) := by decide +kernel
theorem dX0_loss_27 : decode cX0_loss 27 = .ok (.goto 4, 3) := by decide +kernel
theorem dX0_loss_30 : decode cX0_loss 30 = .ok (.iconst 0, 1) := by decide +kernel
theorem dX0_loss_31 : decode cX0_loss 31 = .ok (.iadd, 1) := by decide +kernel
theorem dX0_loss_32 : decode cX0_loss 32 = .ok (.istore_n 3, 1) := by decide +kernel
theorem dX0_loss_33 : decode cX0_loss 33 = .ok (.aload_n 0, 1) := by decide +kernel
theorem dX0_loss_34 : decode cX0_loss 34 = .ok (.getfield 19, 3) := by decide +kernel
theorem dX0_loss_37 : decode cX0_loss 37 = .ok (.iload_n 1, 1) := by decide +kernel
theorem dX0_loss_38 : decode cX0_loss 38 = .ok (.iaload, 1) := by decide +kernel
theorem dX0_loss_39 : decode cX0_loss 39 = .ok (.iconst 3, 1) := by decide +kernel
theorem dX0_loss_40 : decode cX0_loss 40 = .ok (.if_icmp .eq 22, 3) := by decide +kernel
theorem dX0_loss_43 : decode cX0_loss 43 = .ok (.aload_n 0, 1) := by decide +kernel
theorem dX0_loss_44 : decode cX0_loss 44 = .ok (.getfield 19, 3) := by decide +kernel
theorem dX0_loss_47 : decode cX0_loss 47 = .ok (.iload_n 1, 1) := by decide +kernel
theorem dX0_loss_48 : decode cX0_loss 48 = .ok (.iaload, 1) := by decide +kernel
theorem dX0_loss_49 : decode cX0_loss 49 = .ok (.iconst 2, 1) := by decide +kernel
theorem dX0_loss_50 : decode cX0_loss 50 = .ok (.if_icmp .ne 15, 3) := by decide +kernel
theorem dX0_loss_53 : decode cX0_loss 53 = .ok (.aload_n 0, 1) := by decide +kernel
theorem dX0_loss_54 : decode cX0_loss 54 = .ok (.getfield 50, 3) := by decide +kernel
theorem dX0_loss_57 : decode cX0_loss 57 = .ok (.iconst 2, 1) := by decide +kernel
theorem dX0_loss_58 : decode cX0_loss 58 = .ok (.irem, 1) := by decide +kernel
theorem dX0_loss_59 : decode cX0_loss 59 = .ok (.ifCond .ne 6, 3) := by decide +kernel
theorem dX0_loss_62 : decode cX0_loss 62 = .ok (.iinc 3 1, 3) := by decide +kernel
theorem dX0_loss_65 : decode cX0_loss 65 = .ok (.iload_n 3, 1) := by decide +kernel
theorem dX0_loss_66 : decode cX0_loss 66 = .ok (.ireturn, 1) := by decide +kernel
theorem dX0_drinkAsAsked_0 : decode cX0_drinkAsAsked 0 = .ok (.iload_n 1, 1) := by decide +kernel
theorem dX0_drinkAsAsked_1 : decode cX0_drinkAsAsked 1 = .ok (.iconst 0, 1) := by decide +kernel
theorem dX0_drinkAsAsked_2 : decode cX0_drinkAsAsked 2 = .ok (.aload_n 0, 1) := by decide +kernel
theorem dX0_drinkAsAsked_3 : decode cX0_drinkAsAsked 3 = .ok (.getfield 9, 3) := by decide +kernel
theorem dX0_drinkAsAsked_6 : decode cX0_drinkAsAsked 6 = .ok (.iconst 1, 1) := by decide +kernel
theorem dX0_drinkAsAsked_7 : decode cX0_drinkAsAsked 7 = .ok (.isub, 1) := by decide +kernel
theorem dX0_drinkAsAsked_8 : decode cX0_drinkAsAsked 8 = .ok (.invokestatic 80, 3) := by decide +kernel
theorem dX0_drinkAsAsked_11 : decode cX0_drinkAsAsked 11 = .ok (.ifCond .eq 13, 3) := by decide +kernel
theorem dX0_drinkAsAsked_14 : decode cX0_drinkAsAsked 14 = .ok (.iload_n 2, 1) := by decide +kernel
theorem dX0_drinkAsAsked_15 : decode cX0_drinkAsAsked 15 = .ok (.iconst 0, 1) := by decide +kernel
theorem dX0_drinkAsAsked_16 : decode cX0_drinkAsAsked 16 = .ok (.bipush 20, 2) := by decide +kernel
theorem dX0_drinkAsAsked_18 : decode cX0_drinkAsAsked 18 = .ok (.invokestatic 80, 3) := by decide +kernel
theorem dX0_drinkAsAsked_21 : decode cX0_drinkAsAsked 21 = .ok (.ifCond .ne 5, 3) := by decide +kernel
theorem dX0_drinkAsAsked_24 : decode cX0_drinkAsAsked 24 = .ok (.iconst (-1), 1) := by decide +kernel
theorem dX0_drinkAsAsked_25 : decode cX0_drinkAsAsked 25 = .ok (.ireturn, 1) := by decide +kernel
theorem dX0_drinkAsAsked_26 : decode cX0_drinkAsAsked 26 = .ok (.aload_n 0, 1) := by decide +kernel
theorem dX0_drinkAsAsked_27 : decode cX0_drinkAsAsked 27 = .ok (.iload_n 1, 1) := by decide +kernel
theorem dX0_drinkAsAsked_28 : decode cX0_drinkAsAsked 28 = .ok (.invokevirtual 62, 3) := by decide +kernel
theorem dX0_drinkAsAsked_31 : decode cX0_drinkAsAsked 31 = .ok (.ifCond .ne 11, 3) := by decide +kernel
theorem dX0_drinkAsAsked_34 : decode cX0_drinkAsAsked 34 = .ok (.iload_n 2, 1) := by decide +kernel
theorem dX0_drinkAsAsked_35 : decode cX0_drinkAsAsked 35 = .ok (.aload_n 0, 1) := by decide +kernel
theorem dX0_drinkAsAsked_36 : decode cX0_drinkAsAsked 36 = .ok (.getfield 41, 3) := by decide +kernel
theorem dX0_drinkAsAsked_39 : decode cX0_drinkAsAsked 39 = .ok (.if_icmp .le 6, 3) := by decide +kernel
theorem dX0_drinkAsAsked_42 : decode cX0_drinkAsAsked 42 = .ok (.bipush (-2), 2) := by decide +kernel
theorem dX0_drinkAsAsked_44 : decode cX0_drinkAsAsked 44 = .ok (.ireturn, 1) := by decide +kernel
theorem dX0_drinkAsAsked_45 : decode cX0_drinkAsAsked 45 = .ok (.aload_n 0, 1) := by decide +kernel
theorem dX0_drinkAsAsked_46 : decode cX0_drinkAsAsked 46 = .ok (.getfield 22, 3) := by decide +kernel
theorem dX0_drinkAsAsked_49 : decode cX0_drinkAsAsked 49 = .ok (.iload_n 1, 1) := by decide +kernel
theorem dX0_drinkAsAsked_50 : decode cX0_drinkAsAsked 50 = .ok (.iaload, 1) := by decide +kernel
theorem dX0_drinkAsAsked_51 : decode cX0_drinkAsAsked 51 = .ok (.iload_n 2, 1) := by decide +kernel
theorem dX0_drinkAsAsked_52 : decode cX0_drinkAsAsked 52 = .ok (.iadd, 1) := by decide +kernel
theorem dX0_drinkAsAsked_53 : decode cX0_drinkAsAsked 53 = .ok (.bipush 20, 2) := by decide +kernel
theorem dX0_drinkAsAsked_55 : decode cX0_drinkAsAsked 55 = .ok (.if_icmp .le 6, 3) := by decide +kernel
theorem dX0_drinkAsAsked_58 : decode cX0_drinkAsAsked 58 = .ok (.bipush (-3), 2) := by decide +kernel
theorem dX0_drinkAsAsked_60 : decode cX0_drinkAsAsked 60 = .ok (.ireturn, 1) := by decide +kernel
theorem dX0_drinkAsAsked_61 : decode cX0_drinkAsAsked 61 = .ok (.aload_n 0, 1) := by decide +kernel
theorem dX0_drinkAsAsked_62 : decode cX0_drinkAsAsked 62 = .ok (.getfield 22, 3) := by decide +kernel
theorem dX0_drinkAsAsked_65 : decode cX0_drinkAsAsked 65 = .ok (.iload_n 1, 1) := by decide +kernel
theorem dX0_drinkAsAsked_66 : decode cX0_drinkAsAsked 66 = .ok (.dup2, 1) := by decide +kernel
theorem dX0_drinkAsAsked_67 : decode cX0_drinkAsAsked 67 = .ok (.iaload, 1) := by decide +kernel
theorem dX0_drinkAsAsked_68 : decode cX0_drinkAsAsked 68 = .ok (.iload_n 2, 1) := by decide +kernel
theorem dX0_drinkAsAsked_69 : decode cX0_drinkAsAsked 69 = .ok (.iadd, 1) := by decide +kernel
theorem dX0_drinkAsAsked_70 : decode cX0_drinkAsAsked 70 = .ok (.iastore, 1) := by decide +kernel
theorem dX0_drinkAsAsked_71 : decode cX0_drinkAsAsked 71 = .ok (.aload_n 0, 1) := by decide +kernel
theorem dX0_drinkAsAsked_72 : decode cX0_drinkAsAsked 72 = .ok (.dup, 1) := by decide +kernel
theorem dX0_drinkAsAsked_73 : decode cX0_drinkAsAsked 73 = .ok (.getfield 41, 3) := by decide +kernel
theorem dX0_drinkAsAsked_76 : decode cX0_drinkAsAsked 76 = .ok (.iload_n 2, 1) := by decide +kernel
theorem dX0_drinkAsAsked_77 : decode cX0_drinkAsAsked 77 = .ok (.isub, 1) := by decide +kernel
theorem dX0_drinkAsAsked_78 : decode cX0_drinkAsAsked 78 = .ok (.putfield 41, 3) := by decide +kernel
theorem dX0_drinkAsAsked_81 : decode cX0_drinkAsAsked 81 = .ok (.aload_n 0, 1) := by decide +kernel
theorem dX0_drinkAsAsked_82 : decode cX0_drinkAsAsked 82 = .ok (.getfield 22, 3) := by decide +kernel
theorem dX0_drinkAsAsked_85 : decode cX0_drinkAsAsked 85 = .ok (.iload_n 1, 1) := by decide +kernel
theorem dX0_drinkAsAsked_86 : decode cX0_drinkAsAsked 86 = .ok (.iaload, 1) := by decide +kernel
theorem dX0_drinkAsAsked_87 : decode cX0_drinkAsAsked 87 = .ok (.ireturn, 1) := by decide +kernel
theorem dX0_walksBy_0 : decode cX0_walksBy 0 = .ok (.iload_n 1, 1) := by decide +kernel
theorem dX0_walksBy_1 : decode cX0_walksBy 1 = .ok (.tableswitch 47 0 2 #[27, 40, 45], 27) := by decide +kernel
theorem dX0_walksBy_28 : decode cX0_walksBy 28 = .ok (.aload_n 0, 1) := by decide +kernel
theorem dX0_walksBy_29 : decode cX0_walksBy 29 = .ok (.invokevirtual 76, 3) := by decide +kernel
theorem dX0_walksBy_32 : decode cX0_walksBy 32 = .ok (.ifCond .ne 7, 3) := by decide +kernel
theorem dX0_walksBy_35 : decode cX0_walksBy 35 = .ok (.iconst 1, 1) := by decide +kernel
theorem dX0_walksBy_36 : decode cX0_walksBy 36 = .ok (.goto 4, 3) := by decide +kernel
theorem dX0_walksBy_39 : decode cX0_walksBy 39 = .ok (.iconst 0, 1) := by decide +kernel
theorem dX0_walksBy_40 : decode cX0_walksBy 40 = .ok (.ireturn, 1) := by decide +kernel
theorem dX0_walksBy_41 : decode cX0_walksBy 41 = .ok (.aload_n 0, 1) := by decide +kernel
theorem dX0_walksBy_42 : decode cX0_walksBy 42 = .ok (.invokevirtual 76, 3) := by decide +kernel
theorem dX0_walksBy_45 : decode cX0_walksBy 45 = .ok (.ireturn, 1) := by decide +kernel
theorem dX0_walksBy_46 : decode cX0_walksBy 46 = .ok (.iconst 1, 1) := by decide +kernel
theorem dX0_walksBy_47 : decode cX0_walksBy 47 = .ok (.ireturn, 1) := by decide +kernel
theorem dX0_walksBy_48 : decode cX0_walksBy 48 = .ok (.iconst 0, 1) := by decide +kernel
theorem dX0_walksBy_49 : decode cX0_walksBy 49 = .ok (.ireturn, 1) := by decide +kernel
theorem dX0_passHours_0 : decode cX0_passHours 0 = .ok (.iconst 0, 1) := by decide +kernel
theorem dX0_passHours_1 : decode cX0_passHours 1 = .ok (.istore_n 3, 1) := by decide +kernel
theorem dX0_passHours_2 : decode cX0_passHours 2 = .ok (.iload_n 3, 1) := by decide +kernel
theorem dX0_passHours_3 : decode cX0_passHours 3 = .ok (.iload_n 1, 1) := by decide +kernel
theorem dX0_passHours_4 : decode cX0_passHours 4 = .ok (.if_icmp .ge 18, 3) := by decide +kernel
theorem dX0_passHours_7 : decode cX0_passHours 7 = .ok (.aload_n 0, 1) := by decide +kernel
theorem dX0_passHours_8 : decode cX0_passHours 8 = .ok (.aload_n 0, 1) := by decide +kernel
theorem dX0_passHours_9 : decode cX0_passHours 9 = .ok (.iload_n 2, 1) := by decide +kernel
theorem dX0_passHours_10 : decode cX0_passHours 10 = .ok (.invokevirtual 84, 3) := by decide +kernel
theorem dX0_passHours_13 : decode cX0_passHours 13 = .ok (.invokevirtual 87, 3) := by decide +kernel
theorem dX0_passHours_16 : decode cX0_passHours 16 = .ok (.iinc 3 1, 3) := by decide +kernel
theorem dX0_passHours_19 : decode cX0_passHours 19 = .ok (.goto (-17), 3) := by decide +kernel
theorem dX0_passHours_22 : decode cX0_passHours 22 = .ok (.return_, 1) := by decide +kernel
theorem dX0_passHour_0 : decode cX0_passHour 0 = .ok (.aload_n 0, 1) := by decide +kernel
theorem dX0_passHour_1 : decode cX0_passHour 1 = .ok (.invokevirtual 91, 3) := by decide +kernel
theorem dX0_passHour_4 : decode cX0_passHour 4 = .ok (.ifCond .ne 10, 3) := by decide +kernel
theorem dX0_passHour_7 : decode cX0_passHour 7 = .ok (.aload_n 0, 1) := by decide +kernel
theorem dX0_passHour_8 : decode cX0_passHour 8 = .ok (.invokevirtual 94, 3) := by decide +kernel
theorem dX0_passHour_11 : decode cX0_passHour 11 = .ok (.ifCond .ne 7, 3) := by decide +kernel
theorem dX0_passHour_14 : decode cX0_passHour 14 = .ok (.iconst 1, 1) := by decide +kernel
theorem dX0_passHour_15 : decode cX0_passHour 15 = .ok (.goto 4, 3) := by decide +kernel
theorem dX0_passHour_18 : decode cX0_passHour 18 = .ok (.iconst 0, 1) := by decide +kernel
theorem dX0_passHour_19 : decode cX0_passHour 19 = .ok (.istore_n 2, 1) := by decide +kernel
theorem dX0_passHour_20 : decode cX0_passHour 20 = .ok (.iload_n 2, 1) := by decide +kernel
theorem dX0_passHour_21 : decode cX0_passHour 21 = .ok (.ifCond .ne 46, 3) := by decide +kernel
theorem dX0_passHour_24 : decode cX0_passHour 24 = .ok (.aload_n 0, 1) := by decide +kernel
theorem dX0_passHour_25 : decode cX0_passHour 25 = .ok (.getfield 50, 3) := by decide +kernel
theorem dX0_passHour_28 : decode cX0_passHour 28 = .ok (.bipush 24, 2) := by decide +kernel
theorem dX0_passHour_30 : decode cX0_passHour 30 = .ok (.irem, 1) := by decide +kernel
theorem dX0_passHour_31 : decode cX0_passHour 31 = .ok (.iconst 4, 1) := by decide +kernel
theorem dX0_passHour_32 : decode cX0_passHour 32 = .ok (.if_icmp .ne 11, 3) := by decide +kernel
theorem dX0_passHour_35 : decode cX0_passHour 35 = .ok (.aload_n 0, 1) := by decide +kernel
theorem dX0_passHour_36 : decode cX0_passHour 36 = .ok (.aload_n 0, 1) := by decide +kernel
theorem dX0_passHour_37 : decode cX0_passHour 37 = .ok (.getfield 56, 3) := by decide +kernel
theorem dX0_passHour_40 : decode cX0_passHour 40 = .ok (.invokevirtual 97, 3) := by decide +kernel
theorem dX0_passHour_43 : decode cX0_passHour 43 = .ok (.aload_n 0, 1) := by decide +kernel
theorem dX0_passHour_44 : decode cX0_passHour 44 = .ok (.invokevirtual 101, 3) := by decide +kernel
theorem dX0_passHour_47 : decode cX0_passHour 47 = .ok (.aload_n 0, 1) := by decide +kernel
theorem dX0_passHour_48 : decode cX0_passHour 48 = .ok (.iload_n 1, 1) := by decide +kernel
theorem dX0_passHour_49 : decode cX0_passHour 49 = .ok (.invokevirtual 104, 3) := by decide +kernel
theorem dX0_passHour_52 : decode cX0_passHour 52 = .ok (.iload_n 1, 1) := by decide +kernel
theorem dX0_passHour_53 : decode cX0_passHour 53 = .ok (.ifCond .eq 14, 3) := by decide +kernel
theorem dX0_passHour_56 : decode cX0_passHour 56 = .ok (.aload_n 0, 1) := by decide +kernel
theorem dX0_passHour_57 : decode cX0_passHour 57 = .ok (.invokevirtual 94, 3) := by decide +kernel
theorem dX0_passHour_60 : decode cX0_passHour 60 = .ok (.ifCond .le 7, 3) := by decide +kernel
theorem dX0_passHour_63 : decode cX0_passHour 63 = .ok (.aload_n 0, 1) := by decide +kernel
theorem dX0_passHour_64 : decode cX0_passHour 64 = .ok (.invokevirtual 107, 3) := by decide +kernel
theorem dX0_passHour_67 : decode cX0_passHour 67 = .ok (.aload_n 0, 1) := by decide +kernel
theorem dX0_passHour_68 : decode cX0_passHour 68 = .ok (.dup, 1) := by decide +kernel
theorem dX0_passHour_69 : decode cX0_passHour 69 = .ok (.getfield 50, 3) := by decide +kernel
theorem dX0_passHour_72 : decode cX0_passHour 72 = .ok (.iconst 1, 1) := by decide +kernel
theorem dX0_passHour_73 : decode cX0_passHour 73 = .ok (.iadd, 1) := by decide +kernel
theorem dX0_passHour_74 : decode cX0_passHour 74 = .ok (.putfield 50, 3) := by decide +kernel
theorem dX0_passHour_77 : decode cX0_passHour 77 = .ok (.return_, 1) := by decide +kernel
theorem dX0_pourIn_0 : decode cX0_pourIn 0 = .ok (.aload_n 0, 1) := by decide +kernel
theorem dX0_pourIn_1 : decode cX0_pourIn 1 = .ok (.bipush 60, 2) := by decide +kernel
theorem dX0_pourIn_3 : decode cX0_pourIn 3 = .ok (.aload_n 0, 1) := by decide +kernel
theorem dX0_pourIn_4 : decode cX0_pourIn 4 = .ok (.getfield 41, 3) := by decide +kernel
theorem dX0_pourIn_7 : decode cX0_pourIn 7 = .ok (.iload_n 1, 1) := by decide +kernel
theorem dX0_pourIn_8 : decode cX0_pourIn 8 = .ok (.iadd, 1) := by decide +kernel
theorem dX0_pourIn_9 : decode cX0_pourIn 9 = .ok (.invokestatic 110, 3) := by decide +kernel
theorem dX0_pourIn_12 : decode cX0_pourIn 12 = .ok (.putfield 41, 3) := by decide +kernel
theorem dX0_pourIn_15 : decode cX0_pourIn 15 = .ok (.return_, 1) := by decide +kernel
theorem dX0_drinkRound_0 : decode cX0_drinkRound 0 = .ok (.aload_n 0, 1) := by decide +kernel
theorem dX0_drinkRound_1 : decode cX0_drinkRound 1 = .ok (.invokevirtual 72, 3) := by decide +kernel
theorem dX0_drinkRound_4 : decode cX0_drinkRound 4 = .ok (.istore_n 1, 1) := by decide +kernel
theorem dX0_drinkRound_5 : decode cX0_drinkRound 5 = .ok (.iconst 1, 1) := by decide +kernel
theorem dX0_drinkRound_6 : decode cX0_drinkRound 6 = .ok (.istore_n 2, 1) := by decide +kernel
theorem dX0_drinkRound_7 : decode cX0_drinkRound 7 = .ok (.iload_n 2, 1) := by decide +kernel
theorem dX0_drinkRound_8 : decode cX0_drinkRound 8 = .ok (.aload_n 0, 1) := by decide +kernel
theorem dX0_drinkRound_9 : decode cX0_drinkRound 9 = .ok (.getfield 9, 3) := by decide +kernel
theorem dX0_drinkRound_12 : decode cX0_drinkRound 12 = .ok (.if_icmp .gt 75, 3) := by decide +kernel
theorem dX0_drinkRound_15 : decode cX0_drinkRound 15 = .ok (.iload_n 1, 1) := by decide +kernel
theorem dX0_drinkRound_16 : decode cX0_drinkRound 16 = .ok (.iload_n 2, 1) := by decide +kernel
theorem dX0_drinkRound_17 : decode cX0_drinkRound 17 = .ok (.iadd, 1) := by decide +kernel
theorem dX0_drinkRound_18 : decode cX0_drinkRound 18 = .ok (.aload_n 0, 1) := by decide +kernel
theorem dX0_drinkRound_19 : decode cX0_drinkRound 19 = .ok (.getfield 9, 3) := by decide +kernel
theorem dX0_drinkRound_22 : decode cX0_drinkRound 22 = .ok (.irem, 1) := by decide +kernel
theorem dX0_drinkRound_23 : decode cX0_drinkRound 23 = .ok (.istore_n 3, 1) := by decide +kernel
theorem dX0_drinkRound_24 : decode cX0_drinkRound 24 = .ok (.aload_n 0, 1) := by decide +kernel
theorem dX0_drinkRound_25 : decode cX0_drinkRound 25 = .ok (.iload_n 3, 1) := by decide +kernel
theorem dX0_drinkRound_26 : decode cX0_drinkRound 26 = .ok (.invokevirtual 113, 3) := by decide +kernel
theorem dX0_drinkRound_29 : decode cX0_drinkRound 29 = .ok (.istore 4, 2) := by decide +kernel
theorem dX0_drinkRound_31 : decode cX0_drinkRound 31 = .ok (.aload_n 0, 1) := by decide +kernel
theorem dX0_drinkRound_32 : decode cX0_drinkRound 32 = .ok (.iload_n 3, 1) := by decide +kernel
theorem dX0_drinkRound_33 : decode cX0_drinkRound 33 = .ok (.invokevirtual 117, 3) := by decide +kernel
theorem dX0_drinkRound_36 : decode cX0_drinkRound 36 = .ok (.bipush 20, 2) := by decide +kernel
theorem dX0_drinkRound_38 : decode cX0_drinkRound 38 = .ok (.aload_n 0, 1) := by decide +kernel
theorem dX0_drinkRound_39 : decode cX0_drinkRound 39 = .ok (.getfield 22, 3) := by decide +kernel
theorem dX0_drinkRound_42 : decode cX0_drinkRound 42 = .ok (.iload 4, 2) := by decide +kernel
theorem dX0_drinkRound_44 : decode cX0_drinkRound 44 = .ok (.iaload, 1) := by decide +kernel
theorem dX0_drinkRound_45 : decode cX0_drinkRound 45 = .ok (.isub, 1) := by decide +kernel
theorem dX0_drinkRound_46 : decode cX0_drinkRound 46 = .ok (.aload_n 0, 1) := by decide +kernel
theorem dX0_drinkRound_47 : decode cX0_drinkRound 47 = .ok (.getfield 41, 3) := by decide +kernel
theorem dX0_drinkRound_50 : decode cX0_drinkRound 50 = .ok (.invokestatic 110, 3) := by decide +kernel
theorem dX0_drinkRound_53 : decode cX0_drinkRound 53 = .ok (.invokestatic 110, 3) := by decide +kernel
theorem dX0_drinkRound_56 : decode cX0_drinkRound 56 = .ok (.istore 5, 2) := by decide +kernel
theorem dX0_drinkRound_58 : decode cX0_drinkRound 58 = .ok (.aload_n 0, 1) := by decide +kernel
theorem dX0_drinkRound_59 : decode cX0_drinkRound 59 = .ok (.getfield 22, 3) := by decide +kernel
theorem dX0_drinkRound_62 : decode cX0_drinkRound 62 = .ok (.iload 4, 2) := by decide +kernel
theorem dX0_drinkRound_64 : decode cX0_drinkRound 64 = .ok (.dup2, 1) := by decide +kernel
theorem dX0_drinkRound_65 : decode cX0_drinkRound 65 = .ok (.iaload, 1) := by decide +kernel
theorem dX0_drinkRound_66 : decode cX0_drinkRound 66 = .ok (.iload 5, 2) := by decide +kernel
theorem dX0_drinkRound_68 : decode cX0_drinkRound 68 = .ok (.iadd, 1) := by decide +kernel
theorem dX0_drinkRound_69 : decode cX0_drinkRound 69 = .ok (.iastore, 1) := by decide +kernel
theorem dX0_drinkRound_70 : decode cX0_drinkRound 70 = .ok (.aload_n 0, 1) := by decide +kernel
theorem dX0_drinkRound_71 : decode cX0_drinkRound 71 = .ok (.dup, 1) := by decide +kernel
theorem dX0_drinkRound_72 : decode cX0_drinkRound 72 = .ok (.getfield 41, 3) := by decide +kernel
theorem dX0_drinkRound_75 : decode cX0_drinkRound 75 = .ok (.iload 5, 2) := by decide +kernel
theorem dX0_drinkRound_77 : decode cX0_drinkRound 77 = .ok (.isub, 1) := by decide +kernel
theorem dX0_drinkRound_78 : decode cX0_drinkRound 78 = .ok (.putfield 41, 3) := by decide +kernel
theorem dX0_drinkRound_81 : decode cX0_drinkRound 81 = .ok (.iinc 2 1, 3) := by decide +kernel
theorem dX0_drinkRound_84 : decode cX0_drinkRound 84 = .ok (.goto (-77), 3) := by decide +kernel
theorem dX0_drinkRound_87 : decode cX0_drinkRound 87 = .ok (.return_, 1) := by decide +kernel
theorem dX0_loseWater_0 : decode cX0_loseWater 0 = .ok (.iconst 0, 1) := by decide +kernel
theorem dX0_loseWater_1 : decode cX0_loseWater 1 = .ok (.istore_n 2, 1) := by decide +kernel
theorem dX0_loseWater_2 : decode cX0_loseWater 2 = .ok (.iload_n 2, 1) := by decide +kernel
theorem dX0_loseWater_3 : decode cX0_loseWater 3 = .ok (.aload_n 0, 1) := by decide +kernel
theorem dX0_loseWater_4 : decode cX0_loseWater 4 = .ok (.getfield 9, 3) := by decide +kernel
theorem dX0_loseWater_7 : decode cX0_loseWater 7 = .ok (.if_icmp .ge 32, 3) := by decide +kernel
theorem dX0_loseWater_10 : decode cX0_loseWater 10 = .ok (.aload_n 0, 1) := by decide +kernel
theorem dX0_loseWater_11 : decode cX0_loseWater 11 = .ok (.getfield 22, 3) := by decide +kernel
theorem dX0_loseWater_14 : decode cX0_loseWater 14 = .ok (.iload_n 2, 1) := by decide +kernel
theorem dX0_loseWater_15 : decode cX0_loseWater 15 = .ok (.iconst 0, 1) := by decide +kernel
theorem dX0_loseWater_16 : decode cX0_loseWater 16 = .ok (.aload_n 0, 1) := by decide +kernel
theorem dX0_loseWater_17 : decode cX0_loseWater 17 = .ok (.getfield 22, 3) := by decide +kernel
theorem dX0_loseWater_20 : decode cX0_loseWater 20 = .ok (.iload_n 2, 1) := by decide +kernel
theorem dX0_loseWater_21 : decode cX0_loseWater 21 = .ok (.iaload, 1) := by decide +kernel
theorem dX0_loseWater_22 : decode cX0_loseWater 22 = .ok (.aload_n 0, 1) := by decide +kernel
theorem dX0_loseWater_23 : decode cX0_loseWater 23 = .ok (.iload_n 2, 1) := by decide +kernel
theorem dX0_loseWater_24 : decode cX0_loseWater 24 = .ok (.iload_n 1, 1) := by decide +kernel
theorem dX0_loseWater_25 : decode cX0_loseWater 25 = .ok (.invokevirtual 120, 3) := by decide +kernel
theorem dX0_loseWater_28 : decode cX0_loseWater 28 = .ok (.isub, 1) := by decide +kernel
theorem dX0_loseWater_29 : decode cX0_loseWater 29 = .ok (.invokestatic 66, 3) := by decide +kernel
theorem dX0_loseWater_32 : decode cX0_loseWater 32 = .ok (.iastore, 1) := by decide +kernel
theorem dX0_loseWater_33 : decode cX0_loseWater 33 = .ok (.iinc 2 1, 3) := by decide +kernel
theorem dX0_loseWater_36 : decode cX0_loseWater 36 = .ok (.goto (-34), 3) := by decide +kernel
theorem dX0_loseWater_39 : decode cX0_loseWater 39 = .ok (.return_, 1) := by decide +kernel
theorem dX0_walkOn_0 : decode cX0_walkOn 0 = .ok (.aload_n 0, 1) := by decide +kernel
theorem dX0_walkOn_1 : decode cX0_walkOn 1 = .ok (.getfield 47, 3) := by decide +kernel
theorem dX0_walkOn_4 : decode cX0_walkOn 4 = .ok (.istore_n 1, 1) := by decide +kernel
theorem dX0_walkOn_5 : decode cX0_walkOn 5 = .ok (.aload_n 0, 1) := by decide +kernel
theorem dX0_walkOn_6 : decode cX0_walkOn 6 = .ok (.dup, 1) := by decide +kernel
theorem dX0_walkOn_7 : decode cX0_walkOn 7 = .ok (.getfield 47, 3) := by decide +kernel
theorem dX0_walkOn_10 : decode cX0_walkOn 10 = .ok (.aload_n 0, 1) := by decide +kernel
theorem dX0_walkOn_11 : decode cX0_walkOn 11 = .ok (.invokevirtual 76, 3) := by decide +kernel
theorem dX0_walkOn_14 : decode cX0_walkOn 14 = .ok (.ifCond .eq 7, 3) := by decide +kernel
theorem dX0_walkOn_17 : decode cX0_walkOn 17 = .ok (.iconst 2, 1) := by decide +kernel
theorem dX0_walkOn_18 : decode cX0_walkOn 18 = .ok (.goto 4, 3) := by decide +kernel
theorem dX0_walkOn_21 : decode cX0_walkOn 21 = .ok (.iconst 3, 1) := by decide +kernel
theorem dX0_walkOn_22 : decode cX0_walkOn 22 = .ok (.aload_n 0, 1) := by decide +kernel
theorem dX0_walkOn_23 : decode cX0_walkOn 23 = .ok (.invokevirtual 124, 3) := by decide +kernel
theorem dX0_walkOn_26 : decode cX0_walkOn 26 = .ok (.ifCond .eq 7, 3) := by decide +kernel
theorem dX0_walkOn_29 : decode cX0_walkOn 29 = .ok (.iconst 1, 1) := by decide +kernel
theorem dX0_walkOn_30 : decode cX0_walkOn 30 = .ok (.goto 4, 3) := by decide +kernel
theorem dX0_walkOn_33 : decode cX0_walkOn 33 = .ok (.iconst 0, 1) := by decide +kernel
theorem dX0_walkOn_34 : decode cX0_walkOn 34 = .ok (.isub, 1) := by decide +kernel
theorem dX0_walkOn_35 : decode cX0_walkOn 35 = .ok (.iadd, 1) := by decide +kernel
theorem dX0_walkOn_36 : decode cX0_walkOn 36 = .ok (.putfield 47, 3) := by decide +kernel
theorem dX0_walkOn_39 : decode cX0_walkOn 39 = .ok (.iconst 0, 1) := by decide +kernel
theorem dX0_walkOn_40 : decode cX0_walkOn 40 = .ok (.istore_n 2, 1) := by decide +kernel
theorem dX0_walkOn_41 : decode cX0_walkOn 41 = .ok (.iload_n 2, 1) := by decide +kernel
theorem dX0_walkOn_42 : decode cX0_walkOn 42 = .ok (.aload_n 0, 1) := by decide +kernel
theorem dX0_walkOn_43 : decode cX0_walkOn 43 = .ok (.getfield 25, 3) := by decide +kernel
theorem dX0_walkOn_46 : decode cX0_walkOn 46 = .ok (.if_icmp .ge 58, 3) := by decide +kernel
theorem dX0_walkOn_49 : decode cX0_walkOn 49 = .ok (.aload_n 0, 1) := by decide +kernel
theorem dX0_walkOn_50 : decode cX0_walkOn 50 = .ok (.getfield 37, 3) := by decide +kernel
theorem dX0_walkOn_53 : decode cX0_walkOn 53 = .ok (.iload_n 2, 1) := by decide +kernel
theorem dX0_walkOn_54 : decode cX0_walkOn 54 = .ok (.baload, 1) := by decide +kernel
theorem dX0_walkOn_55 : decode cX0_walkOn 55 = .ok (.ifCond .eq 43, 3) := by decide +kernel
theorem dX0_walkOn_58 : decode cX0_walkOn 58 = .ok (.aload_n 0, 1) := by decide +kernel
theorem dX0_walkOn_59 : decode cX0_walkOn 59 = .ok (.getfield 28, 3) := by decide +kernel
theorem dX0_walkOn_62 : decode cX0_walkOn 62 = .ok (.iload_n 2, 1) := by decide +kernel
theorem dX0_walkOn_63 : decode cX0_walkOn 63 = .ok (.iaload, 1) := by decide +kernel
theorem dX0_walkOn_64 : decode cX0_walkOn 64 = .ok (.iload_n 1, 1) := by decide +kernel
theorem dX0_walkOn_65 : decode cX0_walkOn 65 = .ok (.if_icmp .le 33, 3) := by decide +kernel
theorem dX0_walkOn_68 : decode cX0_walkOn 68 = .ok (.aload_n 0, 1) := by decide +kernel
theorem dX0_walkOn_69 : decode cX0_walkOn 69 = .ok (.getfield 28, 3) := by decide +kernel
theorem dX0_walkOn_72 : decode cX0_walkOn 72 = .ok (.iload_n 2, 1) := by decide +kernel
theorem dX0_walkOn_73 : decode cX0_walkOn 73 = .ok (.iaload, 1) := by decide +kernel
theorem dX0_walkOn_74 : decode cX0_walkOn 74 = .ok (.aload_n 0, 1) := by decide +kernel
theorem dX0_walkOn_75 : decode cX0_walkOn 75 = .ok (.getfield 47, 3) := by decide +kernel
theorem dX0_walkOn_78 : decode cX0_walkOn 78 = .ok (.if_icmp .gt 20, 3) := by decide +kernel
theorem dX0_walkOn_81 : decode cX0_walkOn 81 = .ok (.aload_n 0, 1) := by decide +kernel
theorem dX0_walkOn_82 : decode cX0_walkOn 82 = .ok (.aload_n 0, 1) := by decide +kernel
theorem dX0_walkOn_83 : decode cX0_walkOn 83 = .ok (.getfield 34, 3) := by decide +kernel
theorem dX0_walkOn_86 : decode cX0_walkOn 86 = .ok (.iload_n 2, 1) := by decide +kernel
theorem dX0_walkOn_87 : decode cX0_walkOn 87 = .ok (.iaload, 1) := by decide +kernel
theorem dX0_walkOn_88 : decode cX0_walkOn 88 = .ok (.invokevirtual 97, 3) := by decide +kernel
theorem dX0_walkOn_91 : decode cX0_walkOn 91 = .ok (.aload_n 0, 1) := by decide +kernel
theorem dX0_walkOn_92 : decode cX0_walkOn 92 = .ok (.getfield 37, 3) := by decide +kernel
theorem dX0_walkOn_95 : decode cX0_walkOn 95 = .ok (.iload_n 2, 1) := by decide +kernel
theorem dX0_walkOn_96 : decode cX0_walkOn 96 = .ok (.iconst 0, 1) := by decide +kernel
theorem dX0_walkOn_97 : decode cX0_walkOn 97 = .ok (.bastore, 1) := by decide +kernel
theorem dX0_walkOn_98 : decode cX0_walkOn 98 = .ok (.iinc 2 1, 3) := by decide +kernel
theorem dX0_walkOn_101 : decode cX0_walkOn 101 = .ok (.goto (-60), 3) := by decide +kernel
theorem dX0_walkOn_104 : decode cX0_walkOn 104 = .ok (.return_, 1) := by decide +kernel
theorem dX0_isSomeoneWeak_0 : decode cX0_isSomeoneWeak 0 = .ok (.iconst 0, 1) := by decide +kernel
theorem dX0_isSomeoneWeak_1 : decode cX0_isSomeoneWeak 1 = .ok (.istore_n 1, 1) := by decide +kernel
theorem dX0_isSomeoneWeak_2 : decode cX0_isSomeoneWeak 2 = .ok (.iload_n 1, 1) := by decide +kernel
theorem dX0_isSomeoneWeak_3 : decode cX0_isSomeoneWeak 3 = .ok (.aload_n 0, 1) := by decide +kernel
theorem dX0_isSomeoneWeak_4 : decode cX0_isSomeoneWeak 4 = .ok (.getfield 9, 3) := by decide +kernel
theorem dX0_isSomeoneWeak_7 : decode cX0_isSomeoneWeak 7 = .ok (.if_icmp .ge 29, 3) := by decide +kernel
theorem dX0_isSomeoneWeak_10 : decode cX0_isSomeoneWeak 10 = .ok (.aload_n 0, 1) := by decide +kernel
theorem dX0_isSomeoneWeak_11 : decode cX0_isSomeoneWeak 11 = .ok (.iload_n 1, 1) := by decide +kernel
theorem dX0_isSomeoneWeak_12 : decode cX0_isSomeoneWeak 12 = .ok (.invokevirtual 62, 3) := by decide +kernel
theorem dX0_isSomeoneWeak_15 : decode cX0_isSomeoneWeak 15 = .ok (.ifCond .ne 15, 3) := by decide +kernel
theorem dX0_isSomeoneWeak_18 : decode cX0_isSomeoneWeak 18 = .ok (.aload_n 0, 1) := by decide +kernel
theorem dX0_isSomeoneWeak_19 : decode cX0_isSomeoneWeak 19 = .ok (.getfield 22, 3) := by decide +kernel
theorem dX0_isSomeoneWeak_22 : decode cX0_isSomeoneWeak 22 = .ok (.iload_n 1, 1) := by decide +kernel
theorem dX0_isSomeoneWeak_23 : decode cX0_isSomeoneWeak 23 = .ok (.iaload, 1) := by decide +kernel
theorem dX0_isSomeoneWeak_24 : decode cX0_isSomeoneWeak 24 = .ok (.iconst 5, 1) := by decide +kernel
theorem dX0_isSomeoneWeak_25 : decode cX0_isSomeoneWeak 25 = .ok (.if_icmp .gt 5, 3) := by decide +kernel
theorem dX0_isSomeoneWeak_28 : decode cX0_isSomeoneWeak 28 = .ok (.iconst 1, 1) := by decide +kernel
theorem dX0_isSomeoneWeak_29 : decode cX0_isSomeoneWeak 29 = .ok (.ireturn, 1) := by decide +kernel
theorem dX0_isSomeoneWeak_30 : decode cX0_isSomeoneWeak 30 = .ok (.iinc 1 1, 3) := by decide +kernel
theorem dX0_isSomeoneWeak_33 : decode cX0_isSomeoneWeak 33 = .ok (.goto (-31), 3) := by decide +kernel
theorem dX0_isSomeoneWeak_36 : decode cX0_isSomeoneWeak 36 = .ok (.iconst 0, 1) := by decide +kernel
theorem dX0_isSomeoneWeak_37 : decode cX0_isSomeoneWeak 37 = .ok (.ireturn, 1) := by decide +kernel
theorem dX0_hoursToGoal_0 : decode cX0_hoursToGoal 0 = .ok (.iconst 0, 1) := by decide +kernel
theorem dX0_hoursToGoal_1 : decode cX0_hoursToGoal 1 = .ok (.istore_n 2, 1) := by decide +kernel
theorem dX0_hoursToGoal_2 : decode cX0_hoursToGoal 2 = .ok (.iload_n 2, 1) := by decide +kernel
theorem dX0_hoursToGoal_3 : decode cX0_hoursToGoal 3 = .ok (.bipush 96, 2) := by decide +kernel
theorem dX0_hoursToGoal_5 : decode cX0_hoursToGoal 5 = .ok (.if_icmp .ge 25, 3) := by decide +kernel
theorem dX0_hoursToGoal_8 : decode cX0_hoursToGoal 8 = .ok (.aload_n 0, 1) := by decide +kernel
theorem dX0_hoursToGoal_9 : decode cX0_hoursToGoal 9 = .ok (.invokevirtual 91, 3) := by decide +kernel
theorem dX0_hoursToGoal_12 : decode cX0_hoursToGoal 12 = .ok (.ifCond .ne 18, 3) := by decide +kernel
theorem dX0_hoursToGoal_15 : decode cX0_hoursToGoal 15 = .ok (.aload_n 0, 1) := by decide +kernel
theorem dX0_hoursToGoal_16 : decode cX0_hoursToGoal 16 = .ok (.aload_n 0, 1) := by decide +kernel
theorem dX0_hoursToGoal_17 : decode cX0_hoursToGoal 17 = .ok (.iload_n 1, 1) := by decide +kernel
theorem dX0_hoursToGoal_18 : decode cX0_hoursToGoal 18 = .ok (.invokevirtual 84, 3) := by decide +kernel
theorem dX0_hoursToGoal_21 : decode cX0_hoursToGoal 21 = .ok (.invokevirtual 87, 3) := by decide +kernel
theorem dX0_hoursToGoal_24 : decode cX0_hoursToGoal 24 = .ok (.iinc 2 1, 3) := by decide +kernel
theorem dX0_hoursToGoal_27 : decode cX0_hoursToGoal 27 = .ok (.goto (-25), 3) := by decide +kernel
theorem dX0_hoursToGoal_30 : decode cX0_hoursToGoal 30 = .ok (.iload_n 2, 1) := by decide +kernel
theorem dX0_hoursToGoal_31 : decode cX0_hoursToGoal 31 = .ok (.ireturn, 1) := by decide +kernel
theorem dX0_arrived_0 : decode cX0_arrived 0 = .ok (.aload_n 0, 1) := by decide +kernel
theorem dX0_arrived_1 : decode cX0_arrived 1 = .ok (.invokevirtual 91, 3) := by decide +kernel
theorem dX0_arrived_4 : decode cX0_arrived 4 = .ok (.ifCond .eq 10, 3) := by decide +kernel
theorem dX0_arrived_7 : decode cX0_arrived 7 = .ok (.aload_n 0, 1) := by decide +kernel
theorem dX0_arrived_8 : decode cX0_arrived 8 = .ok (.invokevirtual 94, 3) := by decide +kernel
theorem dX0_arrived_11 : decode cX0_arrived 11 = .ok (.goto 4, 3) := by decide +kernel
theorem dX0_arrived_14 : decode cX0_arrived 14 = .ok (.iconst 0, 1) := by decide +kernel
theorem dX0_arrived_15 : decode cX0_arrived 15 = .ok (.ireturn, 1) := by decide +kernel
