theorem gd_House_init_0 : decode prog_1_method_1_code 0 = .ok (.aload_n 0, 1) := by decide +kernel
theorem gd_House_init_1 : decode prog_1_method_1_code 1 = .ok (.invokespecial 3, 3) := by decide +kernel
theorem gd_House_init_4 : decode prog_1_method_1_code 4 = .ok (.aload_n 0, 1) := by decide +kernel
theorem gd_House_init_5 : decode prog_1_method_1_code 5 = .ok (.new 9, 3) := by decide +kernel
theorem gd_House_init_8 : decode prog_1_method_1_code 8 = .ok (.dup, 1) := by decide +kernel
theorem gd_House_init_9 : decode prog_1_method_1_code 9 = .ok (.invokespecial 11, 3) := by decide +kernel
theorem gd_House_init_12 : decode prog_1_method_1_code 12 = .ok (.putfield 12, 3) := by decide +kernel
theorem gd_House_init_15 : decode prog_1_method_1_code 15 = .ok (.aload_n 0, 1) := by decide +kernel
theorem gd_House_init_16 : decode prog_1_method_1_code 16 = .ok (.new 16, 3) := by decide +kernel
theorem gd_House_init_19 : decode prog_1_method_1_code 19 = .ok (.dup, 1) := by decide +kernel
theorem gd_House_init_20 : decode prog_1_method_1_code 20 = .ok (.aload_n 0, 1) := by decide +kernel
theorem gd_House_init_21 : decode prog_1_method_1_code 21 = .ok (.getfield 12, 3) := by decide +kernel
theorem gd_House_init_24 : decode prog_1_method_1_code 24 = .ok (.invokespecial 18, 3) := by decide +kernel
theorem gd_House_init_27 : decode prog_1_method_1_code 27 = .ok (.putfield 21, 3) := by decide +kernel
theorem gd_House_init_30 : decode prog_1_method_1_code 30 = .ok (.aload_n 0, 1) := by decide +kernel
theorem gd_House_init_31 : decode prog_1_method_1_code 31 = .ok (.new 25, 3) := by decide +kernel
theorem gd_House_init_34 : decode prog_1_method_1_code 34 = .ok (.dup, 1) := by decide +kernel
theorem gd_House_init_35 : decode prog_1_method_1_code 35 = .ok (.invokespecial 27, 3) := by decide +kernel
theorem gd_House_init_38 : decode prog_1_method_1_code 38 = .ok (.putfield 28, 3) := by decide +kernel
theorem gd_House_init_41 : decode prog_1_method_1_code 41 = .ok (.aload_n 0, 1) := by decide +kernel
theorem gd_House_init_42 : decode prog_1_method_1_code 42 = .ok (.new 32, 3) := by decide +kernel
theorem gd_House_init_45 : decode prog_1_method_1_code 45 = .ok (.dup, 1) := by decide +kernel
theorem gd_House_init_46 : decode prog_1_method_1_code 46 = .ok (.aload_n 0, 1) := by decide +kernel
theorem gd_House_init_47 : decode prog_1_method_1_code 47 = .ok (.getfield 28, 3) := by decide +kernel
theorem gd_House_init_50 : decode prog_1_method_1_code 50 = .ok (.invokespecial 34, 3) := by decide +kernel
theorem gd_House_init_53 : decode prog_1_method_1_code 53 = .ok (.putfield 37, 3) := by decide +kernel
theorem gd_House_init_56 : decode prog_1_method_1_code 56 = .ok (.aload_n 0, 1) := by decide +kernel
theorem gd_House_init_57 : decode prog_1_method_1_code 57 = .ok (.new 41, 3) := by decide +kernel
theorem gd_House_init_60 : decode prog_1_method_1_code 60 = .ok (.dup, 1) := by decide +kernel
theorem gd_House_init_61 : decode prog_1_method_1_code 61 = .ok (.aload_n 0, 1) := by decide +kernel
theorem gd_House_init_62 : decode prog_1_method_1_code 62 = .ok (.getfield 28, 3) := by decide +kernel
theorem gd_House_init_65 : decode prog_1_method_1_code 65 = .ok (.aload_n 0, 1) := by decide +kernel
theorem gd_House_init_66 : decode prog_1_method_1_code 66 = .ok (.getfield 37, 3) := by decide +kernel
theorem gd_House_init_69 : decode prog_1_method_1_code 69 = .ok (.invokespecial 43, 3) := by decide +kernel
theorem gd_House_init_72 : decode prog_1_method_1_code 72 = .ok (.putfield 46, 3) := by decide +kernel
theorem gd_House_init_75 : decode prog_1_method_1_code 75 = .ok (.aload_n 0, 1) := by decide +kernel
theorem gd_House_init_76 : decode prog_1_method_1_code 76 = .ok (.new 50, 3) := by decide +kernel
theorem gd_House_init_79 : decode prog_1_method_1_code 79 = .ok (.dup, 1) := by decide +kernel
theorem gd_House_init_80 : decode prog_1_method_1_code 80 = .ok (.aload_n 0, 1) := by decide +kernel
theorem gd_House_init_81 : decode prog_1_method_1_code 81 = .ok (.getfield 28, 3) := by decide +kernel
theorem gd_House_init_84 : decode prog_1_method_1_code 84 = .ok (.aload_n 0, 1) := by decide +kernel
theorem gd_House_init_85 : decode prog_1_method_1_code 85 = .ok (.getfield 37, 3) := by decide +kernel
theorem gd_House_init_88 : decode prog_1_method_1_code 88 = .ok (.aload_n 0, 1) := by decide +kernel
theorem gd_House_init_89 : decode prog_1_method_1_code 89 = .ok (.getfield 46, 3) := by decide +kernel
theorem gd_House_init_92 : decode prog_1_method_1_code 92 = .ok (.invokespecial 52, 3) := by decide +kernel
theorem gd_House_init_95 : decode prog_1_method_1_code 95 = .ok (.putfield 55, 3) := by decide +kernel
theorem gd_House_init_98 : decode prog_1_method_1_code 98 = .ok (.aload_n 0, 1) := by decide +kernel
theorem gd_House_init_99 : decode prog_1_method_1_code 99 = .ok (.new 59, 3) := by decide +kernel
theorem gd_House_init_102 : decode prog_1_method_1_code 102 = .ok (.dup, 1) := by decide +kernel
theorem gd_House_init_103 : decode prog_1_method_1_code 103 = .ok (.aload_n 0, 1) := by decide +kernel
theorem gd_House_init_104 : decode prog_1_method_1_code 104 = .ok (.getfield 28, 3) := by decide +kernel
theorem gd_House_init_107 : decode prog_1_method_1_code 107 = .ok (.aload_n 0, 1) := by decide +kernel
theorem gd_House_init_108 : decode prog_1_method_1_code 108 = .ok (.getfield 37, 3) := by decide +kernel
theorem gd_House_init_111 : decode prog_1_method_1_code 111 = .ok (.aload_n 0, 1) := by decide +kernel
theorem gd_House_init_112 : decode prog_1_method_1_code 112 = .ok (.getfield 46, 3) := by decide +kernel
theorem gd_House_init_115 : decode prog_1_method_1_code 115 = .ok (.aload_n 0, 1) := by decide +kernel
theorem gd_House_init_116 : decode prog_1_method_1_code 116 = .ok (.getfield 55, 3) := by decide +kernel
theorem gd_House_init_119 : decode prog_1_method_1_code 119 = .ok (.invokespecial 61, 3) := by decide +kernel
theorem gd_House_init_122 : decode prog_1_method_1_code 122 = .ok (.putfield 64, 3) := by decide +kernel
theorem gd_House_init_125 : decode prog_1_method_1_code 125 = .ok (.aload_n 0, 1) := by decide +kernel
theorem gd_House_init_126 : decode prog_1_method_1_code 126 = .ok (.new 68, 3) := by decide +kernel
theorem gd_House_init_129 : decode prog_1_method_1_code 129 = .ok (.dup, 1) := by decide +kernel
theorem gd_House_init_130 : decode prog_1_method_1_code 130 = .ok (.aload_n 0, 1) := by decide +kernel
theorem gd_House_init_131 : decode prog_1_method_1_code 131 = .ok (.getfield 28, 3) := by decide +kernel
theorem gd_House_init_134 : decode prog_1_method_1_code 134 = .ok (.aload_n 0, 1) := by decide +kernel
theorem gd_House_init_135 : decode prog_1_method_1_code 135 = .ok (.getfield 37, 3) := by decide +kernel
theorem gd_House_init_138 : decode prog_1_method_1_code 138 = .ok (.aload_n 0, 1) := by decide +kernel
theorem gd_House_init_139 : decode prog_1_method_1_code 139 = .ok (.getfield 46, 3) := by decide +kernel
theorem gd_House_init_142 : decode prog_1_method_1_code 142 = .ok (.aload_n 0, 1) := by decide +kernel
theorem gd_House_init_143 : decode prog_1_method_1_code 143 = .ok (.getfield 55, 3) := by decide +kernel
theorem gd_House_init_146 : decode prog_1_method_1_code 146 = .ok (.invokespecial 70, 3) := by decide +kernel
theorem gd_House_init_149 : decode prog_1_method_1_code 149 = .ok (.putfield 71, 3) := by decide +kernel
theorem gd_House_init_152 : decode prog_1_method_1_code 152 = .ok (.aload_n 0, 1) := by decide +kernel
theorem gd_House_init_153 : decode prog_1_method_1_code 153 = .ok (.new 75, 3) := by decide +kernel
theorem gd_House_init_156 : decode prog_1_method_1_code 156 = .ok (.dup, 1) := by decide +kernel
theorem gd_House_init_157 : decode prog_1_method_1_code 157 = .ok (.aload_n 0, 1) := by decide +kernel
theorem gd_House_init_158 : decode prog_1_method_1_code 158 = .ok (.getfield 28, 3) := by decide +kernel
theorem gd_House_init_161 : decode prog_1_method_1_code 161 = .ok (.aload_n 0, 1) := by decide +kernel
theorem gd_House_init_162 : decode prog_1_method_1_code 162 = .ok (.getfield 46, 3) := by decide +kernel
theorem gd_House_init_165 : decode prog_1_method_1_code 165 = .ok (.aload_n 0, 1) := by decide +kernel
theorem gd_House_init_166 : decode prog_1_method_1_code 166 = .ok (.getfield 71, 3) := by decide +kernel
theorem gd_House_init_169 : decode prog_1_method_1_code 169 = .ok (.invokespecial 77, 3) := by decide +kernel
theorem gd_House_init_172 : decode prog_1_method_1_code 172 = .ok (.putfield 80, 3) := by decide +kernel
theorem gd_House_init_175 : decode prog_1_method_1_code 175 = .ok (.aload_n 0, 1) := by decide +kernel
theorem gd_House_init_176 : decode prog_1_method_1_code 176 = .ok (.new 84, 3) := by decide +kernel
theorem gd_House_init_179 : decode prog_1_method_1_code 179 = .ok (.dup, 1) := by decide +kernel
theorem gd_House_init_180 : decode prog_1_method_1_code 180 = .ok (.aload_n 0, 1) := by decide +kernel
theorem gd_House_init_181 : decode prog_1_method_1_code 181 = .ok (.getfield 28, 3) := by decide +kernel
theorem gd_House_init_184 : decode prog_1_method_1_code 184 = .ok (.aload_n 0, 1) := by decide +kernel
theorem gd_House_init_185 : decode prog_1_method_1_code 185 = .ok (.getfield 37, 3) := by decide +kernel
theorem gd_House_init_188 : decode prog_1_method_1_code 188 = .ok (.invokespecial 86, 3) := by decide +kernel
theorem gd_House_init_191 : decode prog_1_method_1_code 191 = .ok (.putfield 87, 3) := by decide +kernel
theorem gd_House_init_194 : decode prog_1_method_1_code 194 = .ok (.return_, 1) := by decide +kernel
theorem gd_Tape_init_0 : decode prog_10_method_1_code 0 = .ok (.aload_n 0, 1) := by decide +kernel
theorem gd_Tape_init_1 : decode prog_10_method_1_code 1 = .ok (.invokespecial 3, 3) := by decide +kernel
theorem gd_Tape_init_4 : decode prog_10_method_1_code 4 = .ok (.aload_n 0, 1) := by decide +kernel
theorem gd_Tape_init_5 : decode prog_10_method_1_code 5 = .ok (.sipush 240, 3) := by decide +kernel
theorem gd_Tape_init_8 : decode prog_10_method_1_code 8 = .ok (.newarray .int, 2) := by decide +kernel
theorem gd_Tape_init_10 : decode prog_10_method_1_code 10 = .ok (.putfield 9, 3) := by decide +kernel
theorem gd_Tape_init_13 : decode prog_10_method_1_code 13 = .ok (.return_, 1) := by decide +kernel
theorem gd_Reader_init_0 : decode prog_9_method_1_code 0 = .ok (.aload_n 0, 1) := by decide +kernel
theorem gd_Reader_init_1 : decode prog_9_method_1_code 1 = .ok (.invokespecial 3, 3) := by decide +kernel
theorem gd_Reader_init_4 : decode prog_9_method_1_code 4 = .ok (.aload_n 0, 1) := by decide +kernel
theorem gd_Reader_init_5 : decode prog_9_method_1_code 5 = .ok (.new 9, 3) := by decide +kernel
theorem gd_Reader_init_8 : decode prog_9_method_1_code 8 = .ok (.dup, 1) := by decide +kernel
theorem gd_Reader_init_9 : decode prog_9_method_1_code 9 = .ok (.invokespecial 11, 3) := by decide +kernel
theorem gd_Reader_init_12 : decode prog_9_method_1_code 12 = .ok (.putfield 12, 3) := by decide +kernel
theorem gd_Reader_init_15 : decode prog_9_method_1_code 15 = .ok (.aload_n 0, 1) := by decide +kernel
theorem gd_Reader_init_16 : decode prog_9_method_1_code 16 = .ok (.iconst (-1), 1) := by decide +kernel
theorem gd_Reader_init_17 : decode prog_9_method_1_code 17 = .ok (.putfield 18, 3) := by decide +kernel
theorem gd_Reader_init_20 : decode prog_9_method_1_code 20 = .ok (.aload_n 0, 1) := by decide +kernel
theorem gd_Reader_init_21 : decode prog_9_method_1_code 21 = .ok (.iconst 4, 1) := by decide +kernel
theorem gd_Reader_init_22 : decode prog_9_method_1_code 22 = .ok (.newarray .int, 2) := by decide +kernel
theorem gd_Reader_init_24 : decode prog_9_method_1_code 24 = .ok (.putfield 22, 3) := by decide +kernel
theorem gd_Reader_init_27 : decode prog_9_method_1_code 27 = .ok (.aload_n 0, 1) := by decide +kernel
theorem gd_Reader_init_28 : decode prog_9_method_1_code 28 = .ok (.bipush 16, 2) := by decide +kernel
theorem gd_Reader_init_30 : decode prog_9_method_1_code 30 = .ok (.newarray .int, 2) := by decide +kernel
theorem gd_Reader_init_32 : decode prog_9_method_1_code 32 = .ok (.putfield 26, 3) := by decide +kernel
theorem gd_Reader_init_35 : decode prog_9_method_1_code 35 = .ok (.aload_n 0, 1) := by decide +kernel
theorem gd_Reader_init_36 : decode prog_9_method_1_code 36 = .ok (.aload_n 1, 1) := by decide +kernel
theorem gd_Reader_init_37 : decode prog_9_method_1_code 37 = .ok (.putfield 29, 3) := by decide +kernel
theorem gd_Reader_init_40 : decode prog_9_method_1_code 40 = .ok (.return_, 1) := by decide +kernel
theorem gd_Draft_init_0 : decode prog_3_method_1_code 0 = .ok (.aload_n 0, 1) := by decide +kernel
theorem gd_Draft_init_1 : decode prog_3_method_1_code 1 = .ok (.invokespecial 3, 3) := by decide +kernel
theorem gd_Draft_init_4 : decode prog_3_method_1_code 4 = .ok (.aload_n 0, 1) := by decide +kernel
theorem gd_Draft_init_5 : decode prog_3_method_1_code 5 = .ok (.bipush 8, 2) := by decide +kernel
theorem gd_Draft_init_7 : decode prog_3_method_1_code 7 = .ok (.newarray .int, 2) := by decide +kernel
theorem gd_Draft_init_9 : decode prog_3_method_1_code 9 = .ok (.putfield 9, 3) := by decide +kernel
theorem gd_Draft_init_12 : decode prog_3_method_1_code 12 = .ok (.aload_n 0, 1) := by decide +kernel
theorem gd_Draft_init_13 : decode prog_3_method_1_code 13 = .ok (.bipush 20, 2) := by decide +kernel
theorem gd_Draft_init_15 : decode prog_3_method_1_code 15 = .ok (.newarray .int, 2) := by decide +kernel
theorem gd_Draft_init_17 : decode prog_3_method_1_code 17 = .ok (.putfield 15, 3) := by decide +kernel
theorem gd_Draft_init_20 : decode prog_3_method_1_code 20 = .ok (.aload_n 0, 1) := by decide +kernel
theorem gd_Draft_init_21 : decode prog_3_method_1_code 21 = .ok (.bipush 20, 2) := by decide +kernel
theorem gd_Draft_init_23 : decode prog_3_method_1_code 23 = .ok (.newarray .int, 2) := by decide +kernel
theorem gd_Draft_init_25 : decode prog_3_method_1_code 25 = .ok (.putfield 18, 3) := by decide +kernel
theorem gd_Draft_init_28 : decode prog_3_method_1_code 28 = .ok (.aload_n 0, 1) := by decide +kernel
theorem gd_Draft_init_29 : decode prog_3_method_1_code 29 = .ok (.bipush 80, 2) := by decide +kernel
theorem gd_Draft_init_31 : decode prog_3_method_1_code 31 = .ok (.newarray .int, 2) := by decide +kernel
theorem gd_Draft_init_33 : decode prog_3_method_1_code 33 = .ok (.putfield 21, 3) := by decide +kernel
theorem gd_Draft_init_36 : decode prog_3_method_1_code 36 = .ok (.return_, 1) := by decide +kernel
theorem gd_Grammar_init_0 : decode prog_6_method_1_code 0 = .ok (.aload_n 0, 1) := by decide +kernel
theorem gd_Grammar_init_1 : decode prog_6_method_1_code 1 = .ok (.invokespecial 3, 3) := by decide +kernel
theorem gd_Grammar_init_4 : decode prog_6_method_1_code 4 = .ok (.aload_n 0, 1) := by decide +kernel
theorem gd_Grammar_init_5 : decode prog_6_method_1_code 5 = .ok (.bipush 8, 2) := by decide +kernel
theorem gd_Grammar_init_7 : decode prog_6_method_1_code 7 = .ok (.newarray .int, 2) := by decide +kernel
theorem gd_Grammar_init_9 : decode prog_6_method_1_code 9 = .ok (.putfield 9, 3) := by decide +kernel
theorem gd_Grammar_init_12 : decode prog_6_method_1_code 12 = .ok (.aload_n 0, 1) := by decide +kernel
theorem gd_Grammar_init_13 : decode prog_6_method_1_code 13 = .ok (.bipush 8, 2) := by decide +kernel
theorem gd_Grammar_init_15 : decode prog_6_method_1_code 15 = .ok (.newarray .int, 2) := by decide +kernel
theorem gd_Grammar_init_17 : decode prog_6_method_1_code 17 = .ok (.putfield 15, 3) := by decide +kernel
theorem gd_Grammar_init_20 : decode prog_6_method_1_code 20 = .ok (.aload_n 0, 1) := by decide +kernel
theorem gd_Grammar_init_21 : decode prog_6_method_1_code 21 = .ok (.bipush 20, 2) := by decide +kernel
theorem gd_Grammar_init_23 : decode prog_6_method_1_code 23 = .ok (.newarray .int, 2) := by decide +kernel
theorem gd_Grammar_init_25 : decode prog_6_method_1_code 25 = .ok (.putfield 18, 3) := by decide +kernel
theorem gd_Grammar_init_28 : decode prog_6_method_1_code 28 = .ok (.aload_n 0, 1) := by decide +kernel
theorem gd_Grammar_init_29 : decode prog_6_method_1_code 29 = .ok (.bipush 20, 2) := by decide +kernel
theorem gd_Grammar_init_31 : decode prog_6_method_1_code 31 = .ok (.newarray .int, 2) := by decide +kernel
theorem gd_Grammar_init_33 : decode prog_6_method_1_code 33 = .ok (.putfield 21, 3) := by decide +kernel
theorem gd_Grammar_init_36 : decode prog_6_method_1_code 36 = .ok (.aload_n 0, 1) := by decide +kernel
theorem gd_Grammar_init_37 : decode prog_6_method_1_code 37 = .ok (.bipush 8, 2) := by decide +kernel
theorem gd_Grammar_init_39 : decode prog_6_method_1_code 39 = .ok (.newarray .int, 2) := by decide +kernel
theorem gd_Grammar_init_41 : decode prog_6_method_1_code 41 = .ok (.putfield 24, 3) := by decide +kernel
theorem gd_Grammar_init_44 : decode prog_6_method_1_code 44 = .ok (.aload_n 0, 1) := by decide +kernel
theorem gd_Grammar_init_45 : decode prog_6_method_1_code 45 = .ok (.bipush 80, 2) := by decide +kernel
theorem gd_Grammar_init_47 : decode prog_6_method_1_code 47 = .ok (.newarray .int, 2) := by decide +kernel
theorem gd_Grammar_init_49 : decode prog_6_method_1_code 49 = .ok (.putfield 27, 3) := by decide +kernel
theorem gd_Grammar_init_52 : decode prog_6_method_1_code 52 = .ok (.return_, 1) := by decide +kernel
theorem gd_Facts_init_0 : decode prog_4_method_1_code 0 = .ok (.aload_n 0, 1) := by decide +kernel
theorem gd_Facts_init_1 : decode prog_4_method_1_code 1 = .ok (.invokespecial 3, 3) := by decide +kernel
theorem gd_Facts_init_4 : decode prog_4_method_1_code 4 = .ok (.aload_n 0, 1) := by decide +kernel
theorem gd_Facts_init_5 : decode prog_4_method_1_code 5 = .ok (.bipush 8, 2) := by decide +kernel
theorem gd_Facts_init_7 : decode prog_4_method_1_code 7 = .ok (.newarray .int, 2) := by decide +kernel
theorem gd_Facts_init_9 : decode prog_4_method_1_code 9 = .ok (.putfield 9, 3) := by decide +kernel
theorem gd_Facts_init_12 : decode prog_4_method_1_code 12 = .ok (.aload_n 0, 1) := by decide +kernel
theorem gd_Facts_init_13 : decode prog_4_method_1_code 13 = .ok (.bipush 8, 2) := by decide +kernel
theorem gd_Facts_init_15 : decode prog_4_method_1_code 15 = .ok (.newarray .int, 2) := by decide +kernel
theorem gd_Facts_init_17 : decode prog_4_method_1_code 17 = .ok (.putfield 15, 3) := by decide +kernel
theorem gd_Facts_init_20 : decode prog_4_method_1_code 20 = .ok (.aload_n 0, 1) := by decide +kernel
theorem gd_Facts_init_21 : decode prog_4_method_1_code 21 = .ok (.bipush 8, 2) := by decide +kernel
theorem gd_Facts_init_23 : decode prog_4_method_1_code 23 = .ok (.newarray .int, 2) := by decide +kernel
theorem gd_Facts_init_25 : decode prog_4_method_1_code 25 = .ok (.putfield 18, 3) := by decide +kernel
theorem gd_Facts_init_28 : decode prog_4_method_1_code 28 = .ok (.aload_n 0, 1) := by decide +kernel
theorem gd_Facts_init_29 : decode prog_4_method_1_code 29 = .ok (.bipush 8, 2) := by decide +kernel
theorem gd_Facts_init_31 : decode prog_4_method_1_code 31 = .ok (.newarray .int, 2) := by decide +kernel
theorem gd_Facts_init_33 : decode prog_4_method_1_code 33 = .ok (.putfield 21, 3) := by decide +kernel
theorem gd_Facts_init_36 : decode prog_4_method_1_code 36 = .ok (.aload_n 0, 1) := by decide +kernel
theorem gd_Facts_init_37 : decode prog_4_method_1_code 37 = .ok (.bipush 20, 2) := by decide +kernel
theorem gd_Facts_init_39 : decode prog_4_method_1_code 39 = .ok (.newarray .int, 2) := by decide +kernel
theorem gd_Facts_init_41 : decode prog_4_method_1_code 41 = .ok (.putfield 24, 3) := by decide +kernel
theorem gd_Facts_init_44 : decode prog_4_method_1_code 44 = .ok (.aload_n 0, 1) := by decide +kernel
theorem gd_Facts_init_45 : decode prog_4_method_1_code 45 = .ok (.aload_n 1, 1) := by decide +kernel
theorem gd_Facts_init_46 : decode prog_4_method_1_code 46 = .ok (.putfield 27, 3) := by decide +kernel
theorem gd_Facts_init_49 : decode prog_4_method_1_code 49 = .ok (.return_, 1) := by decide +kernel
theorem gd_Text_init_0 : decode prog_11_method_1_code 0 = .ok (.aload_n 0, 1) := by decide +kernel
theorem gd_Text_init_1 : decode prog_11_method_1_code 1 = .ok (.invokespecial 3, 3) := by decide +kernel
theorem gd_Text_init_4 : decode prog_11_method_1_code 4 = .ok (.aload_n 0, 1) := by decide +kernel
theorem gd_Text_init_5 : decode prog_11_method_1_code 5 = .ok (.bipush 8, 2) := by decide +kernel
theorem gd_Text_init_7 : decode prog_11_method_1_code 7 = .ok (.newarray .int, 2) := by decide +kernel
theorem gd_Text_init_9 : decode prog_11_method_1_code 9 = .ok (.putfield 9, 3) := by decide +kernel
theorem gd_Text_init_12 : decode prog_11_method_1_code 12 = .ok (.aload_n 0, 1) := by decide +kernel
theorem gd_Text_init_13 : decode prog_11_method_1_code 13 = .ok (.bipush 8, 2) := by decide +kernel
theorem gd_Text_init_15 : decode prog_11_method_1_code 15 = .ok (.newarray .int, 2) := by decide +kernel
theorem gd_Text_init_17 : decode prog_11_method_1_code 17 = .ok (.putfield 15, 3) := by decide +kernel
theorem gd_Text_init_20 : decode prog_11_method_1_code 20 = .ok (.aload_n 0, 1) := by decide +kernel
theorem gd_Text_init_21 : decode prog_11_method_1_code 21 = .ok (.sipush 241, 3) := by decide +kernel
theorem gd_Text_init_24 : decode prog_11_method_1_code 24 = .ok (.newarray .int, 2) := by decide +kernel
theorem gd_Text_init_26 : decode prog_11_method_1_code 26 = .ok (.putfield 18, 3) := by decide +kernel
theorem gd_Text_init_29 : decode prog_11_method_1_code 29 = .ok (.aload_n 0, 1) := by decide +kernel
theorem gd_Text_init_30 : decode prog_11_method_1_code 30 = .ok (.aload_n 1, 1) := by decide +kernel
theorem gd_Text_init_31 : decode prog_11_method_1_code 31 = .ok (.putfield 21, 3) := by decide +kernel
theorem gd_Text_init_34 : decode prog_11_method_1_code 34 = .ok (.aload_n 0, 1) := by decide +kernel
theorem gd_Text_init_35 : decode prog_11_method_1_code 35 = .ok (.aload_n 2, 1) := by decide +kernel
theorem gd_Text_init_36 : decode prog_11_method_1_code 36 = .ok (.putfield 25, 3) := by decide +kernel
theorem gd_Text_init_39 : decode prog_11_method_1_code 39 = .ok (.return_, 1) := by decide +kernel
theorem gd_Chart_init_0 : decode prog_2_method_1_code 0 = .ok (.aload_n 0, 1) := by decide +kernel
theorem gd_Chart_init_1 : decode prog_2_method_1_code 1 = .ok (.invokespecial 3, 3) := by decide +kernel
theorem gd_Chart_init_4 : decode prog_2_method_1_code 4 = .ok (.aload_n 0, 1) := by decide +kernel
theorem gd_Chart_init_5 : decode prog_2_method_1_code 5 = .ok (.bipush 72, 2) := by decide +kernel
theorem gd_Chart_init_7 : decode prog_2_method_1_code 7 = .ok (.newarray .int, 2) := by decide +kernel
theorem gd_Chart_init_9 : decode prog_2_method_1_code 9 = .ok (.putfield 9, 3) := by decide +kernel
theorem gd_Chart_init_12 : decode prog_2_method_1_code 12 = .ok (.aload_n 0, 1) := by decide +kernel
theorem gd_Chart_init_13 : decode prog_2_method_1_code 13 = .ok (.bipush 9, 2) := by decide +kernel
theorem gd_Chart_init_15 : decode prog_2_method_1_code 15 = .ok (.newarray .int, 2) := by decide +kernel
theorem gd_Chart_init_17 : decode prog_2_method_1_code 17 = .ok (.putfield 15, 3) := by decide +kernel
theorem gd_Chart_init_20 : decode prog_2_method_1_code 20 = .ok (.aload_n 0, 1) := by decide +kernel
theorem gd_Chart_init_21 : decode prog_2_method_1_code 21 = .ok (.bipush 9, 2) := by decide +kernel
theorem gd_Chart_init_23 : decode prog_2_method_1_code 23 = .ok (.newarray .int, 2) := by decide +kernel
theorem gd_Chart_init_25 : decode prog_2_method_1_code 25 = .ok (.putfield 18, 3) := by decide +kernel
theorem gd_Chart_init_28 : decode prog_2_method_1_code 28 = .ok (.aload_n 0, 1) := by decide +kernel
theorem gd_Chart_init_29 : decode prog_2_method_1_code 29 = .ok (.bipush 9, 2) := by decide +kernel
theorem gd_Chart_init_31 : decode prog_2_method_1_code 31 = .ok (.newarray .int, 2) := by decide +kernel
theorem gd_Chart_init_33 : decode prog_2_method_1_code 33 = .ok (.putfield 21, 3) := by decide +kernel
theorem gd_Chart_init_36 : decode prog_2_method_1_code 36 = .ok (.aload_n 0, 1) := by decide +kernel
theorem gd_Chart_init_37 : decode prog_2_method_1_code 37 = .ok (.bipush 9, 2) := by decide +kernel
theorem gd_Chart_init_39 : decode prog_2_method_1_code 39 = .ok (.newarray .int, 2) := by decide +kernel
theorem gd_Chart_init_41 : decode prog_2_method_1_code 41 = .ok (.putfield 24, 3) := by decide +kernel
theorem gd_Chart_init_44 : decode prog_2_method_1_code 44 = .ok (.aload_n 0, 1) := by decide +kernel
theorem gd_Chart_init_45 : decode prog_2_method_1_code 45 = .ok (.aload_n 1, 1) := by decide +kernel
theorem gd_Chart_init_46 : decode prog_2_method_1_code 46 = .ok (.putfield 27, 3) := by decide +kernel
theorem gd_Chart_init_49 : decode prog_2_method_1_code 49 = .ok (.aload_n 0, 1) := by decide +kernel
theorem gd_Chart_init_50 : decode prog_2_method_1_code 50 = .ok (.aload_n 2, 1) := by decide +kernel
theorem gd_Chart_init_51 : decode prog_2_method_1_code 51 = .ok (.putfield 31, 3) := by decide +kernel
theorem gd_Chart_init_54 : decode prog_2_method_1_code 54 = .ok (.aload_n 0, 1) := by decide +kernel
theorem gd_Chart_init_55 : decode prog_2_method_1_code 55 = .ok (.aload_n 3, 1) := by decide +kernel
theorem gd_Chart_init_56 : decode prog_2_method_1_code 56 = .ok (.putfield 35, 3) := by decide +kernel
theorem gd_Chart_init_59 : decode prog_2_method_1_code 59 = .ok (.return_, 1) := by decide +kernel
theorem gd_Wants_init_0 : decode prog_12_method_1_code 0 = .ok (.aload_n 0, 1) := by decide +kernel
theorem gd_Wants_init_1 : decode prog_12_method_1_code 1 = .ok (.invokespecial 3, 3) := by decide +kernel
theorem gd_Wants_init_4 : decode prog_12_method_1_code 4 = .ok (.aload_n 0, 1) := by decide +kernel
theorem gd_Wants_init_5 : decode prog_12_method_1_code 5 = .ok (.bipush 9, 2) := by decide +kernel
theorem gd_Wants_init_7 : decode prog_12_method_1_code 7 = .ok (.newarray .int, 2) := by decide +kernel
theorem gd_Wants_init_9 : decode prog_12_method_1_code 9 = .ok (.putfield 9, 3) := by decide +kernel
theorem gd_Wants_init_12 : decode prog_12_method_1_code 12 = .ok (.aload_n 0, 1) := by decide +kernel
theorem gd_Wants_init_13 : decode prog_12_method_1_code 13 = .ok (.bipush 72, 2) := by decide +kernel
theorem gd_Wants_init_15 : decode prog_12_method_1_code 15 = .ok (.newarray .int, 2) := by decide +kernel
theorem gd_Wants_init_17 : decode prog_12_method_1_code 17 = .ok (.putfield 15, 3) := by decide +kernel
theorem gd_Wants_init_20 : decode prog_12_method_1_code 20 = .ok (.aload_n 0, 1) := by decide +kernel
theorem gd_Wants_init_21 : decode prog_12_method_1_code 21 = .ok (.iconst (-1), 1) := by decide +kernel
theorem gd_Wants_init_22 : decode prog_12_method_1_code 22 = .ok (.putfield 18, 3) := by decide +kernel
theorem gd_Wants_init_25 : decode prog_12_method_1_code 25 = .ok (.aload_n 0, 1) := by decide +kernel
theorem gd_Wants_init_26 : decode prog_12_method_1_code 26 = .ok (.sipush 648, 3) := by decide +kernel
theorem gd_Wants_init_29 : decode prog_12_method_1_code 29 = .ok (.newarray .int, 2) := by decide +kernel
theorem gd_Wants_init_31 : decode prog_12_method_1_code 31 = .ok (.putfield 22, 3) := by decide +kernel
theorem gd_Wants_init_34 : decode prog_12_method_1_code 34 = .ok (.aload_n 0, 1) := by decide +kernel
theorem gd_Wants_init_35 : decode prog_12_method_1_code 35 = .ok (.bipush 9, 2) := by decide +kernel
theorem gd_Wants_init_37 : decode prog_12_method_1_code 37 = .ok (.newarray .int, 2) := by decide +kernel
theorem gd_Wants_init_39 : decode prog_12_method_1_code 39 = .ok (.putfield 25, 3) := by decide +kernel
theorem gd_Wants_init_42 : decode prog_12_method_1_code 42 = .ok (.aload_n 0, 1) := by decide +kernel
theorem gd_Wants_init_43 : decode prog_12_method_1_code 43 = .ok (.aload_n 1, 1) := by decide +kernel
theorem gd_Wants_init_44 : decode prog_12_method_1_code 44 = .ok (.putfield 28, 3) := by decide +kernel
theorem gd_Wants_init_47 : decode prog_12_method_1_code 47 = .ok (.aload_n 0, 1) := by decide +kernel
theorem gd_Wants_init_48 : decode prog_12_method_1_code 48 = .ok (.aload_n 2, 1) := by decide +kernel
theorem gd_Wants_init_49 : decode prog_12_method_1_code 49 = .ok (.putfield 32, 3) := by decide +kernel
theorem gd_Wants_init_52 : decode prog_12_method_1_code 52 = .ok (.aload_n 0, 1) := by decide +kernel
theorem gd_Wants_init_53 : decode prog_12_method_1_code 53 = .ok (.aload_n 3, 1) := by decide +kernel
theorem gd_Wants_init_54 : decode prog_12_method_1_code 54 = .ok (.putfield 36, 3) := by decide +kernel
theorem gd_Wants_init_57 : decode prog_12_method_1_code 57 = .ok (.aload_n 0, 1) := by decide +kernel
theorem gd_Wants_init_58 : decode prog_12_method_1_code 58 = .ok (.aload 4, 2) := by decide +kernel
theorem gd_Wants_init_60 : decode prog_12_method_1_code 60 = .ok (.putfield 40, 3) := by decide +kernel
theorem gd_Wants_init_63 : decode prog_12_method_1_code 63 = .ok (.return_, 1) := by decide +kernel
theorem gd_Forest_init_0 : decode prog_5_method_1_code 0 = .ok (.aload_n 0, 1) := by decide +kernel
theorem gd_Forest_init_1 : decode prog_5_method_1_code 1 = .ok (.invokespecial 3, 3) := by decide +kernel
theorem gd_Forest_init_4 : decode prog_5_method_1_code 4 = .ok (.aload_n 0, 1) := by decide +kernel
theorem gd_Forest_init_5 : decode prog_5_method_1_code 5 = .ok (.sipush 648, 3) := by decide +kernel
theorem gd_Forest_init_8 : decode prog_5_method_1_code 8 = .ok (.newarray .long, 2) := by decide +kernel
theorem gd_Forest_init_10 : decode prog_5_method_1_code 10 = .ok (.putfield 9, 3) := by decide +kernel
theorem gd_Forest_init_13 : decode prog_5_method_1_code 13 = .ok (.aload_n 0, 1) := by decide +kernel
theorem gd_Forest_init_14 : decode prog_5_method_1_code 14 = .ok (.sipush 360, 3) := by decide +kernel
theorem gd_Forest_init_17 : decode prog_5_method_1_code 17 = .ok (.newarray .long, 2) := by decide +kernel
theorem gd_Forest_init_19 : decode prog_5_method_1_code 19 = .ok (.putfield 15, 3) := by decide +kernel
theorem gd_Forest_init_22 : decode prog_5_method_1_code 22 = .ok (.aload_n 0, 1) := by decide +kernel
theorem gd_Forest_init_23 : decode prog_5_method_1_code 23 = .ok (.bipush 32, 2) := by decide +kernel
theorem gd_Forest_init_25 : decode prog_5_method_1_code 25 = .ok (.newarray .int, 2) := by decide +kernel
theorem gd_Forest_init_27 : decode prog_5_method_1_code 27 = .ok (.putfield 18, 3) := by decide +kernel
theorem gd_Forest_init_30 : decode prog_5_method_1_code 30 = .ok (.aload_n 0, 1) := by decide +kernel
theorem gd_Forest_init_31 : decode prog_5_method_1_code 31 = .ok (.iconst 0, 1) := by decide +kernel
theorem gd_Forest_init_32 : decode prog_5_method_1_code 32 = .ok (.newarray .long, 2) := by decide +kernel
theorem gd_Forest_init_34 : decode prog_5_method_1_code 34 = .ok (.putfield 22, 3) := by decide +kernel
theorem gd_Forest_init_37 : decode prog_5_method_1_code 37 = .ok (.aload_n 0, 1) := by decide +kernel
theorem gd_Forest_init_38 : decode prog_5_method_1_code 38 = .ok (.iconst 0, 1) := by decide +kernel
theorem gd_Forest_init_39 : decode prog_5_method_1_code 39 = .ok (.newarray .int, 2) := by decide +kernel
theorem gd_Forest_init_41 : decode prog_5_method_1_code 41 = .ok (.putfield 25, 3) := by decide +kernel
theorem gd_Forest_init_44 : decode prog_5_method_1_code 44 = .ok (.aload_n 0, 1) := by decide +kernel
theorem gd_Forest_init_45 : decode prog_5_method_1_code 45 = .ok (.iconst (-1), 1) := by decide +kernel
theorem gd_Forest_init_46 : decode prog_5_method_1_code 46 = .ok (.putfield 28, 3) := by decide +kernel
theorem gd_Forest_init_49 : decode prog_5_method_1_code 49 = .ok (.aload_n 0, 1) := by decide +kernel
theorem gd_Forest_init_50 : decode prog_5_method_1_code 50 = .ok (.aload_n 1, 1) := by decide +kernel
theorem gd_Forest_init_51 : decode prog_5_method_1_code 51 = .ok (.putfield 32, 3) := by decide +kernel
theorem gd_Forest_init_54 : decode prog_5_method_1_code 54 = .ok (.aload_n 0, 1) := by decide +kernel
theorem gd_Forest_init_55 : decode prog_5_method_1_code 55 = .ok (.aload_n 2, 1) := by decide +kernel
theorem gd_Forest_init_56 : decode prog_5_method_1_code 56 = .ok (.putfield 36, 3) := by decide +kernel
theorem gd_Forest_init_59 : decode prog_5_method_1_code 59 = .ok (.aload_n 0, 1) := by decide +kernel
theorem gd_Forest_init_60 : decode prog_5_method_1_code 60 = .ok (.aload_n 3, 1) := by decide +kernel
theorem gd_Forest_init_61 : decode prog_5_method_1_code 61 = .ok (.putfield 40, 3) := by decide +kernel
theorem gd_Forest_init_64 : decode prog_5_method_1_code 64 = .ok (.aload_n 0, 1) := by decide +kernel
theorem gd_Forest_init_65 : decode prog_5_method_1_code 65 = .ok (.aload 4, 2) := by decide +kernel
theorem gd_Forest_init_67 : decode prog_5_method_1_code 67 = .ok (.putfield 44, 3) := by decide +kernel
theorem gd_Forest_init_70 : decode prog_5_method_1_code 70 = .ok (.return_, 1) := by decide +kernel
theorem gd_Picker_init_0 : decode prog_7_method_1_code 0 = .ok (.aload_n 0, 1) := by decide +kernel
theorem gd_Picker_init_1 : decode prog_7_method_1_code 1 = .ok (.invokespecial 3, 3) := by decide +kernel
theorem gd_Picker_init_4 : decode prog_7_method_1_code 4 = .ok (.aload_n 0, 1) := by decide +kernel
theorem gd_Picker_init_5 : decode prog_7_method_1_code 5 = .ok (.sipush 300, 3) := by decide +kernel
theorem gd_Picker_init_8 : decode prog_7_method_1_code 8 = .ok (.newarray .int, 2) := by decide +kernel
theorem gd_Picker_init_10 : decode prog_7_method_1_code 10 = .ok (.putfield 9, 3) := by decide +kernel
theorem gd_Picker_init_13 : decode prog_7_method_1_code 13 = .ok (.aload_n 0, 1) := by decide +kernel
theorem gd_Picker_init_14 : decode prog_7_method_1_code 14 = .ok (.sipush 300, 3) := by decide +kernel
theorem gd_Picker_init_17 : decode prog_7_method_1_code 17 = .ok (.newarray .int, 2) := by decide +kernel
theorem gd_Picker_init_19 : decode prog_7_method_1_code 19 = .ok (.putfield 15, 3) := by decide +kernel
theorem gd_Picker_init_22 : decode prog_7_method_1_code 22 = .ok (.aload_n 0, 1) := by decide +kernel
theorem gd_Picker_init_23 : decode prog_7_method_1_code 23 = .ok (.sipush 289, 3) := by decide +kernel
theorem gd_Picker_init_26 : decode prog_7_method_1_code 26 = .ok (.newarray .int, 2) := by decide +kernel
theorem gd_Picker_init_28 : decode prog_7_method_1_code 28 = .ok (.putfield 18, 3) := by decide +kernel
theorem gd_Picker_init_31 : decode prog_7_method_1_code 31 = .ok (.aload_n 0, 1) := by decide +kernel
theorem gd_Picker_init_32 : decode prog_7_method_1_code 32 = .ok (.sipush 289, 3) := by decide +kernel
theorem gd_Picker_init_35 : decode prog_7_method_1_code 35 = .ok (.newarray .int, 2) := by decide +kernel
theorem gd_Picker_init_37 : decode prog_7_method_1_code 37 = .ok (.putfield 21, 3) := by decide +kernel
theorem gd_Picker_init_40 : decode prog_7_method_1_code 40 = .ok (.aload_n 0, 1) := by decide +kernel
theorem gd_Picker_init_41 : decode prog_7_method_1_code 41 = .ok (.sipush 289, 3) := by decide +kernel
theorem gd_Picker_init_44 : decode prog_7_method_1_code 44 = .ok (.newarray .int, 2) := by decide +kernel
theorem gd_Picker_init_46 : decode prog_7_method_1_code 46 = .ok (.putfield 24, 3) := by decide +kernel
theorem gd_Picker_init_49 : decode prog_7_method_1_code 49 = .ok (.aload_n 0, 1) := by decide +kernel
theorem gd_Picker_init_50 : decode prog_7_method_1_code 50 = .ok (.sipush 289, 3) := by decide +kernel
theorem gd_Picker_init_53 : decode prog_7_method_1_code 53 = .ok (.newarray .int, 2) := by decide +kernel
theorem gd_Picker_init_55 : decode prog_7_method_1_code 55 = .ok (.putfield 27, 3) := by decide +kernel
theorem gd_Picker_init_58 : decode prog_7_method_1_code 58 = .ok (.aload_n 0, 1) := by decide +kernel
theorem gd_Picker_init_59 : decode prog_7_method_1_code 59 = .ok (.sipush 289, 3) := by decide +kernel
theorem gd_Picker_init_62 : decode prog_7_method_1_code 62 = .ok (.newarray .int, 2) := by decide +kernel
theorem gd_Picker_init_64 : decode prog_7_method_1_code 64 = .ok (.putfield 30, 3) := by decide +kernel
theorem gd_Picker_init_67 : decode prog_7_method_1_code 67 = .ok (.aload_n 0, 1) := by decide +kernel
theorem gd_Picker_init_68 : decode prog_7_method_1_code 68 = .ok (.sipush 289, 3) := by decide +kernel
theorem gd_Picker_init_71 : decode prog_7_method_1_code 71 = .ok (.newarray .long, 2) := by decide +kernel
theorem gd_Picker_init_73 : decode prog_7_method_1_code 73 = .ok (.putfield 33, 3) := by decide +kernel
theorem gd_Picker_init_76 : decode prog_7_method_1_code 76 = .ok (.aload_n 0, 1) := by decide +kernel
theorem gd_Picker_init_77 : decode prog_7_method_1_code 77 = .ok (.iconst 4, 1) := by decide +kernel
theorem gd_Picker_init_78 : decode prog_7_method_1_code 78 = .ok (.newarray .int, 2) := by decide +kernel
theorem gd_Picker_init_80 : decode prog_7_method_1_code 80 = .ok (.putfield 37, 3) := by decide +kernel
theorem gd_Picker_init_83 : decode prog_7_method_1_code 83 = .ok (.aload_n 0, 1) := by decide +kernel
theorem gd_Picker_init_84 : decode prog_7_method_1_code 84 = .ok (.iconst 4, 1) := by decide +kernel
theorem gd_Picker_init_85 : decode prog_7_method_1_code 85 = .ok (.newarray .long, 2) := by decide +kernel
theorem gd_Picker_init_87 : decode prog_7_method_1_code 87 = .ok (.putfield 40, 3) := by decide +kernel
theorem gd_Picker_init_90 : decode prog_7_method_1_code 90 = .ok (.aload_n 0, 1) := by decide +kernel
theorem gd_Picker_init_91 : decode prog_7_method_1_code 91 = .ok (.aload_n 1, 1) := by decide +kernel
theorem gd_Picker_init_92 : decode prog_7_method_1_code 92 = .ok (.putfield 43, 3) := by decide +kernel
theorem gd_Picker_init_95 : decode prog_7_method_1_code 95 = .ok (.aload_n 0, 1) := by decide +kernel
theorem gd_Picker_init_96 : decode prog_7_method_1_code 96 = .ok (.aload_n 2, 1) := by decide +kernel
theorem gd_Picker_init_97 : decode prog_7_method_1_code 97 = .ok (.putfield 47, 3) := by decide +kernel
theorem gd_Picker_init_100 : decode prog_7_method_1_code 100 = .ok (.aload_n 0, 1) := by decide +kernel
theorem gd_Picker_init_101 : decode prog_7_method_1_code 101 = .ok (.aload_n 3, 1) := by decide +kernel
theorem gd_Picker_init_102 : decode prog_7_method_1_code 102 = .ok (.putfield 51, 3) := by decide +kernel
theorem gd_Picker_init_105 : decode prog_7_method_1_code 105 = .ok (.return_, 1) := by decide +kernel
theorem gd_Proper_init_0 : decode prog_8_method_1_code 0 = .ok (.aload_n 0, 1) := by decide +kernel
theorem gd_Proper_init_1 : decode prog_8_method_1_code 1 = .ok (.invokespecial 3, 3) := by decide +kernel
theorem gd_Proper_init_4 : decode prog_8_method_1_code 4 = .ok (.aload_n 0, 1) := by decide +kernel
theorem gd_Proper_init_5 : decode prog_8_method_1_code 5 = .ok (.bipush 80, 2) := by decide +kernel
theorem gd_Proper_init_7 : decode prog_8_method_1_code 7 = .ok (.newarray .int, 2) := by decide +kernel
theorem gd_Proper_init_9 : decode prog_8_method_1_code 9 = .ok (.putfield 9, 3) := by decide +kernel
theorem gd_Proper_init_12 : decode prog_8_method_1_code 12 = .ok (.aload_n 0, 1) := by decide +kernel
theorem gd_Proper_init_13 : decode prog_8_method_1_code 13 = .ok (.sipush 320, 3) := by decide +kernel
theorem gd_Proper_init_16 : decode prog_8_method_1_code 16 = .ok (.newarray .int, 2) := by decide +kernel
theorem gd_Proper_init_18 : decode prog_8_method_1_code 18 = .ok (.putfield 15, 3) := by decide +kernel
theorem gd_Proper_init_21 : decode prog_8_method_1_code 21 = .ok (.aload_n 0, 1) := by decide +kernel
theorem gd_Proper_init_22 : decode prog_8_method_1_code 22 = .ok (.sipush 320, 3) := by decide +kernel
theorem gd_Proper_init_25 : decode prog_8_method_1_code 25 = .ok (.newarray .int, 2) := by decide +kernel
theorem gd_Proper_init_27 : decode prog_8_method_1_code 27 = .ok (.putfield 18, 3) := by decide +kernel
theorem gd_Proper_init_30 : decode prog_8_method_1_code 30 = .ok (.aload_n 0, 1) := by decide +kernel
theorem gd_Proper_init_31 : decode prog_8_method_1_code 31 = .ok (.bipush 8, 2) := by decide +kernel
theorem gd_Proper_init_33 : decode prog_8_method_1_code 33 = .ok (.newarray .int, 2) := by decide +kernel
theorem gd_Proper_init_35 : decode prog_8_method_1_code 35 = .ok (.putfield 21, 3) := by decide +kernel
theorem gd_Proper_init_38 : decode prog_8_method_1_code 38 = .ok (.aload_n 0, 1) := by decide +kernel
theorem gd_Proper_init_39 : decode prog_8_method_1_code 39 = .ok (.aload_n 1, 1) := by decide +kernel
theorem gd_Proper_init_40 : decode prog_8_method_1_code 40 = .ok (.putfield 24, 3) := by decide +kernel
theorem gd_Proper_init_43 : decode prog_8_method_1_code 43 = .ok (.aload_n 0, 1) := by decide +kernel
theorem gd_Proper_init_44 : decode prog_8_method_1_code 44 = .ok (.aload_n 2, 1) := by decide +kernel
theorem gd_Proper_init_45 : decode prog_8_method_1_code 45 = .ok (.putfield 28, 3) := by decide +kernel
theorem gd_Proper_init_48 : decode prog_8_method_1_code 48 = .ok (.return_, 1) := by decide +kernel
theorem gd_House_read_0 : decode prog_1_method_5_code 0 = .ok (.aload_n 0, 1) := by decide +kernel
theorem gd_House_read_1 : decode prog_1_method_5_code 1 = .ok (.getfield 21, 3) := by decide +kernel
theorem gd_House_read_4 : decode prog_1_method_5_code 4 = .ok (.invokevirtual 110, 3) := by decide +kernel
theorem gd_House_read_7 : decode prog_1_method_5_code 7 = .ok (.ifCond .ne 14, 3) := by decide +kernel
theorem gd_House_read_10 : decode prog_1_method_5_code 10 = .ok (.bipush (-10), 2) := by decide +kernel
theorem gd_House_read_12 : decode prog_1_method_5_code 12 = .ok (.aload_n 0, 1) := by decide +kernel
theorem gd_House_read_13 : decode prog_1_method_5_code 13 = .ok (.getfield 21, 3) := by decide +kernel
theorem gd_House_read_16 : decode prog_1_method_5_code 16 = .ok (.getfield 114, 3) := by decide +kernel
theorem gd_House_read_19 : decode prog_1_method_5_code 19 = .ok (.isub, 1) := by decide +kernel
theorem gd_House_read_20 : decode prog_1_method_5_code 20 = .ok (.ireturn, 1) := by decide +kernel
theorem gd_House_read_21 : decode prog_1_method_5_code 21 = .ok (.aload_n 0, 1) := by decide +kernel
theorem gd_House_read_22 : decode prog_1_method_5_code 22 = .ok (.getfield 21, 3) := by decide +kernel
theorem gd_House_read_25 : decode prog_1_method_5_code 25 = .ok (.getfield 117, 3) := by decide +kernel
theorem gd_House_read_28 : decode prog_1_method_5_code 28 = .ok (.aload_n 0, 1) := by decide +kernel
theorem gd_House_read_29 : decode prog_1_method_5_code 29 = .ok (.getfield 28, 3) := by decide +kernel
theorem gd_House_read_32 : decode prog_1_method_5_code 32 = .ok (.invokevirtual 121, 3) := by decide +kernel
theorem gd_House_read_35 : decode prog_1_method_5_code 35 = .ok (.aload_n 0, 1) := by decide +kernel
theorem gd_House_read_36 : decode prog_1_method_5_code 36 = .ok (.getfield 37, 3) := by decide +kernel
theorem gd_House_read_39 : decode prog_1_method_5_code 39 = .ok (.invokevirtual 126, 3) := by decide +kernel
theorem gd_House_read_42 : decode prog_1_method_5_code 42 = .ok (.aload_n 0, 1) := by decide +kernel
theorem gd_House_read_43 : decode prog_1_method_5_code 43 = .ok (.iconst 1, 1) := by decide +kernel
theorem gd_House_read_44 : decode prog_1_method_5_code 44 = .ok (.putfield 129, 3) := by decide +kernel
theorem gd_House_read_47 : decode prog_1_method_5_code 47 = .ok (.aload_n 0, 1) := by decide +kernel
theorem gd_House_read_48 : decode prog_1_method_5_code 48 = .ok (.getfield 46, 3) := by decide +kernel
theorem gd_House_read_51 : decode prog_1_method_5_code 51 = .ok (.iconst 0, 1) := by decide +kernel
theorem gd_House_read_52 : decode prog_1_method_5_code 52 = .ok (.putfield 133, 3) := by decide +kernel
theorem gd_House_read_55 : decode prog_1_method_5_code 55 = .ok (.aload_n 0, 1) := by decide +kernel
theorem gd_House_read_56 : decode prog_1_method_5_code 56 = .ok (.getfield 87, 3) := by decide +kernel
theorem gd_House_read_59 : decode prog_1_method_5_code 59 = .ok (.iconst 0, 1) := by decide +kernel
theorem gd_House_read_60 : decode prog_1_method_5_code 60 = .ok (.putfield 134, 3) := by decide +kernel
theorem gd_House_read_63 : decode prog_1_method_5_code 63 = .ok (.aload_n 0, 1) := by decide +kernel
theorem gd_House_read_64 : decode prog_1_method_5_code 64 = .ok (.iconst (-1), 1) := by decide +kernel
theorem gd_House_read_65 : decode prog_1_method_5_code 65 = .ok (.invokevirtual 137, 3) := by decide +kernel
theorem gd_House_read_68 : decode prog_1_method_5_code 68 = .ok (.aload_n 0, 1) := by decide +kernel
theorem gd_House_read_69 : decode prog_1_method_5_code 69 = .ok (.getfield 28, 3) := by decide +kernel
theorem gd_House_read_72 : decode prog_1_method_5_code 72 = .ok (.getfield 140, 3) := by decide +kernel
theorem gd_House_read_75 : decode prog_1_method_5_code 75 = .ok (.ireturn, 1) := by decide +kernel
theorem gd_Reader_run_0 : decode prog_9_method_2_code 0 = .ok (.aload_n 0, 1) := by decide +kernel
theorem gd_Reader_run_1 : decode prog_9_method_2_code 1 = .ok (.getfield 12, 3) := by decide +kernel
theorem gd_Reader_run_4 : decode prog_9_method_2_code 4 = .ok (.invokevirtual 33, 3) := by decide +kernel
theorem gd_Reader_run_7 : decode prog_9_method_2_code 7 = .ok (.aload_n 0, 1) := by decide +kernel
theorem gd_Reader_run_8 : decode prog_9_method_2_code 8 = .ok (.getfield 29, 3) := by decide +kernel
theorem gd_Reader_run_11 : decode prog_9_method_2_code 11 = .ok (.invokevirtual 36, 3) := by decide +kernel
theorem gd_Reader_run_14 : decode prog_9_method_2_code 14 = .ok (.aload_n 0, 1) := by decide +kernel
theorem gd_Reader_run_15 : decode prog_9_method_2_code 15 = .ok (.iconst 0, 1) := by decide +kernel
theorem gd_Reader_run_16 : decode prog_9_method_2_code 16 = .ok (.putfield 41, 3) := by decide +kernel
theorem gd_Reader_run_19 : decode prog_9_method_2_code 19 = .ok (.aload_n 0, 1) := by decide +kernel
theorem gd_Reader_run_20 : decode prog_9_method_2_code 20 = .ok (.iconst 0, 1) := by decide +kernel
theorem gd_Reader_run_21 : decode prog_9_method_2_code 21 = .ok (.putfield 44, 3) := by decide +kernel
theorem gd_Reader_run_24 : decode prog_9_method_2_code 24 = .ok (.aload_n 0, 1) := by decide +kernel
theorem gd_Reader_run_25 : decode prog_9_method_2_code 25 = .ok (.iconst (-1), 1) := by decide +kernel
theorem gd_Reader_run_26 : decode prog_9_method_2_code 26 = .ok (.putfield 18, 3) := by decide +kernel
theorem gd_Reader_run_29 : decode prog_9_method_2_code 29 = .ok (.iconst 0, 1) := by decide +kernel
theorem gd_Reader_run_30 : decode prog_9_method_2_code 30 = .ok (.istore_n 1, 1) := by decide +kernel
theorem gd_Reader_run_31 : decode prog_9_method_2_code 31 = .ok (.iload_n 1, 1) := by decide +kernel
theorem gd_Reader_run_32 : decode prog_9_method_2_code 32 = .ok (.sipush 240, 3) := by decide +kernel
theorem gd_Reader_run_35 : decode prog_9_method_2_code 35 = .ok (.if_icmp .gt 61, 3) := by decide +kernel
theorem gd_Reader_run_38 : decode prog_9_method_2_code 38 = .ok (.aload_n 0, 1) := by decide +kernel
theorem gd_Reader_run_39 : decode prog_9_method_2_code 39 = .ok (.getfield 29, 3) := by decide +kernel
theorem gd_Reader_run_42 : decode prog_9_method_2_code 42 = .ok (.invokevirtual 47, 3) := by decide +kernel
theorem gd_Reader_run_45 : decode prog_9_method_2_code 45 = .ok (.aload_n 0, 1) := by decide +kernel
theorem gd_Reader_run_46 : decode prog_9_method_2_code 46 = .ok (.invokevirtual 50, 3) := by decide +kernel
theorem gd_Reader_run_49 : decode prog_9_method_2_code 49 = .ok (.istore_n 2, 1) := by decide +kernel
theorem gd_Reader_run_50 : decode prog_9_method_2_code 50 = .ok (.iload_n 2, 1) := by decide +kernel
theorem gd_Reader_run_51 : decode prog_9_method_2_code 51 = .ok (.ifCond .eq 21, 3) := by decide +kernel
theorem gd_Reader_run_54 : decode prog_9_method_2_code 54 = .ok (.aload_n 0, 1) := by decide +kernel
theorem gd_Reader_run_55 : decode prog_9_method_2_code 55 = .ok (.iload_n 2, 1) := by decide +kernel
theorem gd_Reader_run_56 : decode prog_9_method_2_code 56 = .ok (.putfield 44, 3) := by decide +kernel
theorem gd_Reader_run_59 : decode prog_9_method_2_code 59 = .ok (.aload_n 0, 1) := by decide +kernel
theorem gd_Reader_run_60 : decode prog_9_method_2_code 60 = .ok (.aload_n 0, 1) := by decide +kernel
theorem gd_Reader_run_61 : decode prog_9_method_2_code 61 = .ok (.getfield 29, 3) := by decide +kernel
theorem gd_Reader_run_64 : decode prog_9_method_2_code 64 = .ok (.getfield 54, 3) := by decide +kernel
theorem gd_Reader_run_67 : decode prog_9_method_2_code 67 = .ok (.putfield 18, 3) := by decide +kernel
theorem gd_Reader_run_70 : decode prog_9_method_2_code 70 = .ok (.iconst 0, 1) := by decide +kernel
theorem gd_Reader_run_71 : decode prog_9_method_2_code 71 = .ok (.ireturn, 1) := by decide +kernel
theorem gd_Reader_run_72 : decode prog_9_method_2_code 72 = .ok (.aload_n 0, 1) := by decide +kernel
theorem gd_Reader_run_73 : decode prog_9_method_2_code 73 = .ok (.getfield 29, 3) := by decide +kernel
theorem gd_Reader_run_76 : decode prog_9_method_2_code 76 = .ok (.getfield 55, 3) := by decide +kernel
theorem gd_Reader_run_79 : decode prog_9_method_2_code 79 = .ok (.iconst 4, 1) := by decide +kernel
theorem gd_Reader_run_80 : decode prog_9_method_2_code 80 = .ok (.if_icmp .ne 6, 3) := by decide +kernel
theorem gd_Reader_run_83 : decode prog_9_method_2_code 83 = .ok (.goto 13, 3) := by decide +kernel
theorem gd_Reader_run_86 : decode prog_9_method_2_code 86 = .ok (.aload_n 0, 1) := by decide +kernel
theorem gd_Reader_run_87 : decode prog_9_method_2_code 87 = .ok (.invokevirtual 58, 3) := by decide +kernel
theorem gd_Reader_run_90 : decode prog_9_method_2_code 90 = .ok (.iinc 1 1, 3) := by decide +kernel
theorem gd_Reader_run_93 : decode prog_9_method_2_code 93 = .ok (.goto (-62), 3) := by decide +kernel
theorem gd_Reader_run_96 : decode prog_9_method_2_code 96 = .ok (.aload_n 0, 1) := by decide +kernel
theorem gd_Reader_run_97 : decode prog_9_method_2_code 97 = .ok (.invokevirtual 61, 3) := by decide +kernel
theorem gd_Reader_run_100 : decode prog_9_method_2_code 100 = .ok (.ireturn, 1) := by decide +kernel
theorem gd_Draft_clear_0 : decode prog_3_method_2_code 0 = .ok (.aload_n 0, 1) := by decide +kernel
theorem gd_Draft_clear_1 : decode prog_3_method_2_code 1 = .ok (.iconst 0, 1) := by decide +kernel
theorem gd_Draft_clear_2 : decode prog_3_method_2_code 2 = .ok (.putfield 24, 3) := by decide +kernel
theorem gd_Draft_clear_5 : decode prog_3_method_2_code 5 = .ok (.aload_n 0, 1) := by decide +kernel
theorem gd_Draft_clear_6 : decode prog_3_method_2_code 6 = .ok (.iconst 0, 1) := by decide +kernel
theorem gd_Draft_clear_7 : decode prog_3_method_2_code 7 = .ok (.putfield 28, 3) := by decide +kernel
theorem gd_Draft_clear_10 : decode prog_3_method_2_code 10 = .ok (.aload_n 0, 1) := by decide +kernel
theorem gd_Draft_clear_11 : decode prog_3_method_2_code 11 = .ok (.iconst 0, 1) := by decide +kernel
theorem gd_Draft_clear_12 : decode prog_3_method_2_code 12 = .ok (.putfield 31, 3) := by decide +kernel
theorem gd_Draft_clear_15 : decode prog_3_method_2_code 15 = .ok (.return_, 1) := by decide +kernel
theorem gd_Tape_rewind_0 : decode prog_10_method_6_code 0 = .ok (.aload_n 0, 1) := by decide +kernel
theorem gd_Tape_rewind_1 : decode prog_10_method_6_code 1 = .ok (.iconst 0, 1) := by decide +kernel
theorem gd_Tape_rewind_2 : decode prog_10_method_6_code 2 = .ok (.putfield 19, 3) := by decide +kernel
theorem gd_Tape_rewind_5 : decode prog_10_method_6_code 5 = .ok (.return_, 1) := by decide +kernel
theorem gd_Tape_advance_0 : decode prog_10_method_7_code 0 = .ok (.aload_n 0, 1) := by decide +kernel
theorem gd_Tape_advance_1 : decode prog_10_method_7_code 1 = .ok (.aload_n 0, 1) := by decide +kernel
theorem gd_Tape_advance_2 : decode prog_10_method_7_code 2 = .ok (.getfield 19, 3) := by decide +kernel
theorem gd_Tape_advance_5 : decode prog_10_method_7_code 5 = .ok (.putfield 22, 3) := by decide +kernel
theorem gd_Tape_advance_8 : decode prog_10_method_7_code 8 = .ok (.aload_n 0, 1) := by decide +kernel
theorem gd_Tape_advance_9 : decode prog_10_method_7_code 9 = .ok (.getfield 22, 3) := by decide +kernel
theorem gd_Tape_advance_12 : decode prog_10_method_7_code 12 = .ok (.aload_n 0, 1) := by decide +kernel
theorem gd_Tape_advance_13 : decode prog_10_method_7_code 13 = .ok (.getfield 15, 3) := by decide +kernel
theorem gd_Tape_advance_16 : decode prog_10_method_7_code 16 = .ok (.if_icmp .ge 29, 3) := by decide +kernel
theorem gd_Tape_advance_19 : decode prog_10_method_7_code 19 = .ok (.aload_n 0, 1) := by decide +kernel
theorem gd_Tape_advance_20 : decode prog_10_method_7_code 20 = .ok (.aload_n 0, 1) := by decide +kernel
theorem gd_Tape_advance_21 : decode prog_10_method_7_code 21 = .ok (.getfield 22, 3) := by decide +kernel
theorem gd_Tape_advance_24 : decode prog_10_method_7_code 24 = .ok (.invokevirtual 25, 3) := by decide +kernel
theorem gd_Tape_advance_27 : decode prog_10_method_7_code 27 = .ok (.bipush 32, 2) := by decide +kernel
theorem gd_Tape_advance_29 : decode prog_10_method_7_code 29 = .ok (.if_icmp .ne 16, 3) := by decide +kernel
theorem gd_Tape_advance_32 : decode prog_10_method_7_code 32 = .ok (.aload_n 0, 1) := by decide +kernel
theorem gd_Tape_advance_33 : decode prog_10_method_7_code 33 = .ok (.dup, 1) := by decide +kernel
theorem gd_Tape_advance_34 : decode prog_10_method_7_code 34 = .ok (.getfield 22, 3) := by decide +kernel
theorem gd_Tape_advance_37 : decode prog_10_method_7_code 37 = .ok (.iconst 1, 1) := by decide +kernel
theorem gd_Tape_advance_38 : decode prog_10_method_7_code 38 = .ok (.iadd, 1) := by decide +kernel
theorem gd_Tape_advance_39 : decode prog_10_method_7_code 39 = .ok (.putfield 22, 3) := by decide +kernel
theorem gd_Tape_advance_42 : decode prog_10_method_7_code 42 = .ok (.goto (-34), 3) := by decide +kernel
theorem gd_Tape_advance_45 : decode prog_10_method_7_code 45 = .ok (.aload_n 0, 1) := by decide +kernel
theorem gd_Tape_advance_46 : decode prog_10_method_7_code 46 = .ok (.aload_n 0, 1) := by decide +kernel
theorem gd_Tape_advance_47 : decode prog_10_method_7_code 47 = .ok (.getfield 22, 3) := by decide +kernel
theorem gd_Tape_advance_50 : decode prog_10_method_7_code 50 = .ok (.invokevirtual 25, 3) := by decide +kernel
theorem gd_Tape_advance_53 : decode prog_10_method_7_code 53 = .ok (.istore_n 1, 1) := by decide +kernel
theorem gd_Tape_advance_54 : decode prog_10_method_7_code 54 = .ok (.aload_n 0, 1) := by decide +kernel
theorem gd_Tape_advance_55 : decode prog_10_method_7_code 55 = .ok (.aload_n 0, 1) := by decide +kernel
theorem gd_Tape_advance_56 : decode prog_10_method_7_code 56 = .ok (.getfield 22, 3) := by decide +kernel
theorem gd_Tape_advance_59 : decode prog_10_method_7_code 59 = .ok (.iconst 1, 1) := by decide +kernel
theorem gd_Tape_advance_60 : decode prog_10_method_7_code 60 = .ok (.iadd, 1) := by decide +kernel
theorem gd_Tape_advance_61 : decode prog_10_method_7_code 61 = .ok (.putfield 19, 3) := by decide +kernel
theorem gd_Tape_advance_64 : decode prog_10_method_7_code 64 = .ok (.iload_n 1, 1) := by decide +kernel
theorem gd_Tape_advance_65 : decode prog_10_method_7_code 65 = .ok (.iconst (-1), 1) := by decide +kernel
theorem gd_Tape_advance_66 : decode prog_10_method_7_code 66 = .ok (.if_icmp .ne 19, 3) := by decide +kernel
theorem gd_Tape_advance_69 : decode prog_10_method_7_code 69 = .ok (.aload_n 0, 1) := by decide +kernel
theorem gd_Tape_advance_70 : decode prog_10_method_7_code 70 = .ok (.iconst 4, 1) := by decide +kernel
theorem gd_Tape_advance_71 : decode prog_10_method_7_code 71 = .ok (.putfield 29, 3) := by decide +kernel
theorem gd_Tape_advance_74 : decode prog_10_method_7_code 74 = .ok (.aload_n 0, 1) := by decide +kernel
theorem gd_Tape_advance_75 : decode prog_10_method_7_code 75 = .ok (.aload_n 0, 1) := by decide +kernel
theorem gd_Tape_advance_76 : decode prog_10_method_7_code 76 = .ok (.getfield 22, 3) := by decide +kernel
theorem gd_Tape_advance_79 : decode prog_10_method_7_code 79 = .ok (.putfield 19, 3) := by decide +kernel
theorem gd_Tape_advance_82 : decode prog_10_method_7_code 82 = .ok (.goto 64, 3) := by decide +kernel
theorem gd_Tape_advance_85 : decode prog_10_method_7_code 85 = .ok (.iload_n 1, 1) := by decide +kernel
theorem gd_Tape_advance_86 : decode prog_10_method_7_code 86 = .ok (.bipush 65, 2) := by decide +kernel
theorem gd_Tape_advance_88 : decode prog_10_method_7_code 88 = .ok (.if_icmp .lt 16, 3) := by decide +kernel
theorem gd_Tape_advance_91 : decode prog_10_method_7_code 91 = .ok (.iload_n 1, 1) := by decide +kernel
theorem gd_Tape_advance_92 : decode prog_10_method_7_code 92 = .ok (.bipush 90, 2) := by decide +kernel
theorem gd_Tape_advance_94 : decode prog_10_method_7_code 94 = .ok (.if_icmp .gt 10, 3) := by decide +kernel
theorem gd_Tape_advance_97 : decode prog_10_method_7_code 97 = .ok (.aload_n 0, 1) := by decide +kernel
theorem gd_Tape_advance_98 : decode prog_10_method_7_code 98 = .ok (.invokevirtual 32, 3) := by decide +kernel
theorem gd_Tape_advance_101 : decode prog_10_method_7_code 101 = .ok (.goto 45, 3) := by decide +kernel
theorem gd_Tape_advance_104 : decode prog_10_method_7_code 104 = .ok (.iload_n 1, 1) := by decide +kernel
theorem gd_Tape_advance_105 : decode prog_10_method_7_code 105 = .ok (.bipush 39, 2) := by decide +kernel
theorem gd_Tape_advance_107 : decode prog_10_method_7_code 107 = .ok (.if_icmp .ne 10, 3) := by decide +kernel
theorem gd_Tape_advance_110 : decode prog_10_method_7_code 110 = .ok (.aload_n 0, 1) := by decide +kernel
theorem gd_Tape_advance_111 : decode prog_10_method_7_code 111 = .ok (.invokevirtual 35, 3) := by decide +kernel
theorem gd_Tape_advance_114 : decode prog_10_method_7_code 114 = .ok (.goto 32, 3) := by decide +kernel
theorem gd_Tape_advance_117 : decode prog_10_method_7_code 117 = .ok (.iload_n 1, 1) := by decide +kernel
theorem gd_Tape_advance_118 : decode prog_10_method_7_code 118 = .ok (.bipush 91, 2) := by decide +kernel
theorem gd_Tape_advance_120 : decode prog_10_method_7_code 120 = .ok (.if_icmp .ne 10, 3) := by decide +kernel
theorem gd_Tape_advance_123 : decode prog_10_method_7_code 123 = .ok (.aload_n 0, 1) := by decide +kernel
theorem gd_Tape_advance_124 : decode prog_10_method_7_code 124 = .ok (.invokevirtual 38, 3) := by decide +kernel
theorem gd_Tape_advance_127 : decode prog_10_method_7_code 127 = .ok (.goto 19, 3) := by decide +kernel
theorem gd_Tape_advance_130 : decode prog_10_method_7_code 130 = .ok (.aload_n 0, 1) := by decide +kernel
theorem gd_Tape_advance_131 : decode prog_10_method_7_code 131 = .ok (.iload_n 1, 1) := by decide +kernel
theorem gd_Tape_advance_132 : decode prog_10_method_7_code 132 = .ok (.invokestatic 41, 3) := by decide +kernel
theorem gd_Tape_advance_135 : decode prog_10_method_7_code 135 = .ok (.ifCond .eq 7, 3) := by decide +kernel
theorem gd_Tape_advance_138 : decode prog_10_method_7_code 138 = .ok (.iload_n 1, 1) := by decide +kernel
theorem gd_Tape_advance_139 : decode prog_10_method_7_code 139 = .ok (.goto 4, 3) := by decide +kernel
theorem gd_Tape_advance_142 : decode prog_10_method_7_code 142 = .ok (.iconst 5, 1) := by decide +kernel
theorem gd_Tape_advance_143 : decode prog_10_method_7_code 143 = .ok (.putfield 29, 3) := by decide +kernel
theorem gd_Tape_advance_146 : decode prog_10_method_7_code 146 = .ok (.return_, 1) := by decide +kernel
theorem gd_Tape_signAt_0 : decode prog_10_method_5_code 0 = .ok (.iload_n 1, 1) := by decide +kernel
theorem gd_Tape_signAt_1 : decode prog_10_method_5_code 1 = .ok (.ifCond .lt 27, 3) := by decide +kernel
theorem gd_Tape_signAt_4 : decode prog_10_method_5_code 4 = .ok (.iload_n 1, 1) := by decide +kernel
theorem gd_Tape_signAt_5 : decode prog_10_method_5_code 5 = .ok (.aload_n 0, 1) := by decide +kernel
theorem gd_Tape_signAt_6 : decode prog_10_method_5_code 6 = .ok (.getfield 15, 3) := by decide +kernel
theorem gd_Tape_signAt_9 : decode prog_10_method_5_code 9 = .ok (.if_icmp .ge 19, 3) := by decide +kernel
theorem gd_Tape_signAt_12 : decode prog_10_method_5_code 12 = .ok (.iload_n 1, 1) := by decide +kernel
theorem gd_Tape_signAt_13 : decode prog_10_method_5_code 13 = .ok (.sipush 240, 3) := by decide +kernel
theorem gd_Tape_signAt_16 : decode prog_10_method_5_code 16 = .ok (.if_icmp .ge 12, 3) := by decide +kernel
theorem gd_Tape_signAt_19 : decode prog_10_method_5_code 19 = .ok (.aload_n 0, 1) := by decide +kernel
theorem gd_Tape_signAt_20 : decode prog_10_method_5_code 20 = .ok (.getfield 9, 3) := by decide +kernel
theorem gd_Tape_signAt_23 : decode prog_10_method_5_code 23 = .ok (.iload_n 1, 1) := by decide +kernel
theorem gd_Tape_signAt_24 : decode prog_10_method_5_code 24 = .ok (.iaload, 1) := by decide +kernel
theorem gd_Tape_signAt_25 : decode prog_10_method_5_code 25 = .ok (.goto 4, 3) := by decide +kernel
theorem gd_Tape_signAt_28 : decode prog_10_method_5_code 28 = .ok (.iconst (-1), 1) := by decide +kernel
theorem gd_Tape_signAt_29 : decode prog_10_method_5_code 29 = .ok (.ireturn, 1) := by decide +kernel
theorem gd_Tape_lookAtName_0 : decode prog_10_method_8_code 0 = .ok (.aload_n 0, 1) := by decide +kernel
theorem gd_Tape_lookAtName_1 : decode prog_10_method_8_code 1 = .ok (.getfield 19, 3) := by decide +kernel
theorem gd_Tape_lookAtName_4 : decode prog_10_method_8_code 4 = .ok (.aload_n 0, 1) := by decide +kernel
theorem gd_Tape_lookAtName_5 : decode prog_10_method_8_code 5 = .ok (.getfield 15, 3) := by decide +kernel
theorem gd_Tape_lookAtName_8 : decode prog_10_method_8_code 8 = .ok (.if_icmp .ge 30, 3) := by decide +kernel
theorem gd_Tape_lookAtName_11 : decode prog_10_method_8_code 11 = .ok (.aload_n 0, 1) := by decide +kernel
theorem gd_Tape_lookAtName_12 : decode prog_10_method_8_code 12 = .ok (.aload_n 0, 1) := by decide +kernel
theorem gd_Tape_lookAtName_13 : decode prog_10_method_8_code 13 = .ok (.getfield 19, 3) := by decide +kernel
theorem gd_Tape_lookAtName_16 : decode prog_10_method_8_code 16 = .ok (.invokevirtual 25, 3) := by decide +kernel
theorem gd_Tape_lookAtName_19 : decode prog_10_method_8_code 19 = .ok (.invokestatic 45, 3) := by decide +kernel
theorem gd_Tape_lookAtName_22 : decode prog_10_method_8_code 22 = .ok (.ifCond .eq 16, 3) := by decide +kernel
theorem gd_Tape_lookAtName_25 : decode prog_10_method_8_code 25 = .ok (.aload_n 0, 1) := by decide +kernel
theorem gd_Tape_lookAtName_26 : decode prog_10_method_8_code 26 = .ok (.dup, 1) := by decide +kernel
theorem gd_Tape_lookAtName_27 : decode prog_10_method_8_code 27 = .ok (.getfield 19, 3) := by decide +kernel
theorem gd_Tape_lookAtName_30 : decode prog_10_method_8_code 30 = .ok (.iconst 1, 1) := by decide +kernel
theorem gd_Tape_lookAtName_31 : decode prog_10_method_8_code 31 = .ok (.iadd, 1) := by decide +kernel
theorem gd_Tape_lookAtName_32 : decode prog_10_method_8_code 32 = .ok (.putfield 19, 3) := by decide +kernel
theorem gd_Tape_lookAtName_35 : decode prog_10_method_8_code 35 = .ok (.goto (-35), 3) := by decide +kernel
theorem gd_Tape_lookAtName_38 : decode prog_10_method_8_code 38 = .ok (.aload_n 0, 1) := by decide +kernel
theorem gd_Tape_lookAtName_39 : decode prog_10_method_8_code 39 = .ok (.aload_n 0, 1) := by decide +kernel
theorem gd_Tape_lookAtName_40 : decode prog_10_method_8_code 40 = .ok (.getfield 19, 3) := by decide +kernel
theorem gd_Tape_lookAtName_43 : decode prog_10_method_8_code 43 = .ok (.aload_n 0, 1) := by decide +kernel
theorem gd_Tape_lookAtName_44 : decode prog_10_method_8_code 44 = .ok (.getfield 22, 3) := by decide +kernel
theorem gd_Tape_lookAtName_47 : decode prog_10_method_8_code 47 = .ok (.isub, 1) := by decide +kernel
theorem gd_Tape_lookAtName_48 : decode prog_10_method_8_code 48 = .ok (.iconst 3, 1) := by decide +kernel
theorem gd_Tape_lookAtName_49 : decode prog_10_method_8_code 49 = .ok (.if_icmp .gt 7, 3) := by decide +kernel
theorem gd_Tape_lookAtName_52 : decode prog_10_method_8_code 52 = .ok (.iconst 1, 1) := by decide +kernel
theorem gd_Tape_lookAtName_53 : decode prog_10_method_8_code 53 = .ok (.goto 4, 3) := by decide +kernel
theorem gd_Tape_lookAtName_56 : decode prog_10_method_8_code 56 = .ok (.iconst 5, 1) := by decide +kernel
theorem gd_Tape_lookAtName_57 : decode prog_10_method_8_code 57 = .ok (.putfield 29, 3) := by decide +kernel
theorem gd_Tape_lookAtName_60 : decode prog_10_method_8_code 60 = .ok (.return_, 1) := by decide +kernel
theorem gd_Tape_isFigure_0 : decode prog_10_method_11_code 0 = .ok (.iload_n 0, 1) := by decide +kernel
theorem gd_Tape_isFigure_1 : decode prog_10_method_11_code 1 = .ok (.bipush 48, 2) := by decide +kernel
theorem gd_Tape_isFigure_3 : decode prog_10_method_11_code 3 = .ok (.if_icmp .lt 13, 3) := by decide +kernel
theorem gd_Tape_isFigure_6 : decode prog_10_method_11_code 6 = .ok (.iload_n 0, 1) := by decide +kernel
theorem gd_Tape_isFigure_7 : decode prog_10_method_11_code 7 = .ok (.bipush 57, 2) := by decide +kernel
theorem gd_Tape_isFigure_9 : decode prog_10_method_11_code 9 = .ok (.if_icmp .gt 7, 3) := by decide +kernel
theorem gd_Tape_isFigure_12 : decode prog_10_method_11_code 12 = .ok (.iconst 1, 1) := by decide +kernel
theorem gd_Tape_isFigure_13 : decode prog_10_method_11_code 13 = .ok (.goto 4, 3) := by decide +kernel
theorem gd_Tape_isFigure_16 : decode prog_10_method_11_code 16 = .ok (.iconst 0, 1) := by decide +kernel
theorem gd_Tape_isFigure_17 : decode prog_10_method_11_code 17 = .ok (.ireturn, 1) := by decide +kernel
theorem gd_Tape_lookAtQuote_0 : decode prog_10_method_9_code 0 = .ok (.aload_n 0, 1) := by decide +kernel
theorem gd_Tape_lookAtQuote_1 : decode prog_10_method_9_code 1 = .ok (.getfield 19, 3) := by decide +kernel
theorem gd_Tape_lookAtQuote_4 : decode prog_10_method_9_code 4 = .ok (.aload_n 0, 1) := by decide +kernel
theorem gd_Tape_lookAtQuote_5 : decode prog_10_method_9_code 5 = .ok (.getfield 15, 3) := by decide +kernel
theorem gd_Tape_lookAtQuote_8 : decode prog_10_method_9_code 8 = .ok (.if_icmp .ge 30, 3) := by decide +kernel
theorem gd_Tape_lookAtQuote_11 : decode prog_10_method_9_code 11 = .ok (.aload_n 0, 1) := by decide +kernel
theorem gd_Tape_lookAtQuote_12 : decode prog_10_method_9_code 12 = .ok (.aload_n 0, 1) := by decide +kernel
theorem gd_Tape_lookAtQuote_13 : decode prog_10_method_9_code 13 = .ok (.getfield 19, 3) := by decide +kernel
theorem gd_Tape_lookAtQuote_16 : decode prog_10_method_9_code 16 = .ok (.invokevirtual 25, 3) := by decide +kernel
theorem gd_Tape_lookAtQuote_19 : decode prog_10_method_9_code 19 = .ok (.invokestatic 48, 3) := by decide +kernel
theorem gd_Tape_lookAtQuote_22 : decode prog_10_method_9_code 22 = .ok (.ifCond .eq 16, 3) := by decide +kernel
theorem gd_Tape_lookAtQuote_25 : decode prog_10_method_9_code 25 = .ok (.aload_n 0, 1) := by decide +kernel
theorem gd_Tape_lookAtQuote_26 : decode prog_10_method_9_code 26 = .ok (.dup, 1) := by decide +kernel
theorem gd_Tape_lookAtQuote_27 : decode prog_10_method_9_code 27 = .ok (.getfield 19, 3) := by decide +kernel
theorem gd_Tape_lookAtQuote_30 : decode prog_10_method_9_code 30 = .ok (.iconst 1, 1) := by decide +kernel
theorem gd_Tape_lookAtQuote_31 : decode prog_10_method_9_code 31 = .ok (.iadd, 1) := by decide +kernel
theorem gd_Tape_lookAtQuote_32 : decode prog_10_method_9_code 32 = .ok (.putfield 19, 3) := by decide +kernel
theorem gd_Tape_lookAtQuote_35 : decode prog_10_method_9_code 35 = .ok (.goto (-35), 3) := by decide +kernel
theorem gd_Tape_lookAtQuote_38 : decode prog_10_method_9_code 38 = .ok (.aload_n 0, 1) := by decide +kernel
theorem gd_Tape_lookAtQuote_39 : decode prog_10_method_9_code 39 = .ok (.getfield 19, 3) := by decide +kernel
theorem gd_Tape_lookAtQuote_42 : decode prog_10_method_9_code 42 = .ok (.aload_n 0, 1) := by decide +kernel
theorem gd_Tape_lookAtQuote_43 : decode prog_10_method_9_code 43 = .ok (.getfield 22, 3) := by decide +kernel
theorem gd_Tape_lookAtQuote_46 : decode prog_10_method_9_code 46 = .ok (.isub, 1) := by decide +kernel
theorem gd_Tape_lookAtQuote_47 : decode prog_10_method_9_code 47 = .ok (.iconst 1, 1) := by decide +kernel
theorem gd_Tape_lookAtQuote_48 : decode prog_10_method_9_code 48 = .ok (.isub, 1) := by decide +kernel
theorem gd_Tape_lookAtQuote_49 : decode prog_10_method_9_code 49 = .ok (.istore_n 1, 1) := by decide +kernel
theorem gd_Tape_lookAtQuote_50 : decode prog_10_method_9_code 50 = .ok (.aload_n 0, 1) := by decide +kernel
theorem gd_Tape_lookAtQuote_51 : decode prog_10_method_9_code 51 = .ok (.aload_n 0, 1) := by decide +kernel
theorem gd_Tape_lookAtQuote_52 : decode prog_10_method_9_code 52 = .ok (.aload_n 0, 1) := by decide +kernel
theorem gd_Tape_lookAtQuote_53 : decode prog_10_method_9_code 53 = .ok (.getfield 19, 3) := by decide +kernel
theorem gd_Tape_lookAtQuote_56 : decode prog_10_method_9_code 56 = .ok (.invokevirtual 25, 3) := by decide +kernel
theorem gd_Tape_lookAtQuote_59 : decode prog_10_method_9_code 59 = .ok (.bipush 39, 2) := by decide +kernel
theorem gd_Tape_lookAtQuote_61 : decode prog_10_method_9_code 61 = .ok (.if_icmp .ne 17, 3) := by decide +kernel
theorem gd_Tape_lookAtQuote_64 : decode prog_10_method_9_code 64 = .ok (.iload_n 1, 1) := by decide +kernel
theorem gd_Tape_lookAtQuote_65 : decode prog_10_method_9_code 65 = .ok (.iconst 1, 1) := by decide +kernel
theorem gd_Tape_lookAtQuote_66 : decode prog_10_method_9_code 66 = .ok (.if_icmp .lt 12, 3) := by decide +kernel
theorem gd_Tape_lookAtQuote_69 : decode prog_10_method_9_code 69 = .ok (.iload_n 1, 1) := by decide +kernel
theorem gd_Tape_lookAtQuote_70 : decode prog_10_method_9_code 70 = .ok (.iconst 3, 1) := by decide +kernel
theorem gd_Tape_lookAtQuote_71 : decode prog_10_method_9_code 71 = .ok (.if_icmp .gt 7, 3) := by decide +kernel
theorem gd_Tape_lookAtQuote_74 : decode prog_10_method_9_code 74 = .ok (.iconst 2, 1) := by decide +kernel
theorem gd_Tape_lookAtQuote_75 : decode prog_10_method_9_code 75 = .ok (.goto 4, 3) := by decide +kernel
theorem gd_Tape_lookAtQuote_78 : decode prog_10_method_9_code 78 = .ok (.iconst 5, 1) := by decide +kernel
theorem gd_Tape_lookAtQuote_79 : decode prog_10_method_9_code 79 = .ok (.putfield 29, 3) := by decide +kernel
theorem gd_Tape_lookAtQuote_82 : decode prog_10_method_9_code 82 = .ok (.aload_n 0, 1) := by decide +kernel
theorem gd_Tape_lookAtQuote_83 : decode prog_10_method_9_code 83 = .ok (.dup, 1) := by decide +kernel
theorem gd_Tape_lookAtQuote_84 : decode prog_10_method_9_code 84 = .ok (.getfield 19, 3) := by decide +kernel
theorem gd_Tape_lookAtQuote_87 : decode prog_10_method_9_code 87 = .ok (.iconst 1, 1) := by decide +kernel
theorem gd_Tape_lookAtQuote_88 : decode prog_10_method_9_code 88 = .ok (.iadd, 1) := by decide +kernel
theorem gd_Tape_lookAtQuote_89 : decode prog_10_method_9_code 89 = .ok (.putfield 19, 3) := by decide +kernel
theorem gd_Tape_lookAtQuote_92 : decode prog_10_method_9_code 92 = .ok (.return_, 1) := by decide +kernel
theorem gd_Tape_isSmall_0 : decode prog_10_method_12_code 0 = .ok (.iload_n 0, 1) := by decide +kernel
theorem gd_Tape_isSmall_1 : decode prog_10_method_12_code 1 = .ok (.bipush 97, 2) := by decide +kernel
theorem gd_Tape_isSmall_3 : decode prog_10_method_12_code 3 = .ok (.if_icmp .lt 13, 3) := by decide +kernel
theorem gd_Tape_isSmall_6 : decode prog_10_method_12_code 6 = .ok (.iload_n 0, 1) := by decide +kernel
theorem gd_Tape_isSmall_7 : decode prog_10_method_12_code 7 = .ok (.bipush 122, 2) := by decide +kernel
theorem gd_Tape_isSmall_9 : decode prog_10_method_12_code 9 = .ok (.if_icmp .gt 7, 3) := by decide +kernel
theorem gd_Tape_isSmall_12 : decode prog_10_method_12_code 12 = .ok (.iconst 1, 1) := by decide +kernel
theorem gd_Tape_isSmall_13 : decode prog_10_method_12_code 13 = .ok (.goto 4, 3) := by decide +kernel
theorem gd_Tape_isSmall_16 : decode prog_10_method_12_code 16 = .ok (.iconst 0, 1) := by decide +kernel
theorem gd_Tape_isSmall_17 : decode prog_10_method_12_code 17 = .ok (.ireturn, 1) := by decide +kernel
theorem gd_Tape_lookAtClass_0 : decode prog_10_method_10_code 0 = .ok (.aload_n 0, 1) := by decide +kernel
theorem gd_Tape_lookAtClass_1 : decode prog_10_method_10_code 1 = .ok (.aload_n 0, 1) := by decide +kernel
theorem gd_Tape_lookAtClass_2 : decode prog_10_method_10_code 2 = .ok (.getfield 22, 3) := by decide +kernel
theorem gd_Tape_lookAtClass_5 : decode prog_10_method_10_code 5 = .ok (.iconst 1, 1) := by decide +kernel
theorem gd_Tape_lookAtClass_6 : decode prog_10_method_10_code 6 = .ok (.iadd, 1) := by decide +kernel
theorem gd_Tape_lookAtClass_7 : decode prog_10_method_10_code 7 = .ok (.invokevirtual 25, 3) := by decide +kernel
theorem gd_Tape_lookAtClass_10 : decode prog_10_method_10_code 10 = .ok (.istore_n 1, 1) := by decide +kernel
theorem gd_Tape_lookAtClass_11 : decode prog_10_method_10_code 11 = .ok (.aload_n 0, 1) := by decide +kernel
theorem gd_Tape_lookAtClass_12 : decode prog_10_method_10_code 12 = .ok (.aload_n 0, 1) := by decide +kernel
theorem gd_Tape_lookAtClass_13 : decode prog_10_method_10_code 13 = .ok (.getfield 22, 3) := by decide +kernel
theorem gd_Tape_lookAtClass_16 : decode prog_10_method_10_code 16 = .ok (.iconst 3, 1) := by decide +kernel
theorem gd_Tape_lookAtClass_17 : decode prog_10_method_10_code 17 = .ok (.iadd, 1) := by decide +kernel
theorem gd_Tape_lookAtClass_18 : decode prog_10_method_10_code 18 = .ok (.invokevirtual 25, 3) := by decide +kernel
theorem gd_Tape_lookAtClass_21 : decode prog_10_method_10_code 21 = .ok (.istore_n 2, 1) := by decide +kernel
theorem gd_Tape_lookAtClass_22 : decode prog_10_method_10_code 22 = .ok (.iload_n 1, 1) := by decide +kernel
theorem gd_Tape_lookAtClass_23 : decode prog_10_method_10_code 23 = .ok (.invokestatic 48, 3) := by decide +kernel
theorem gd_Tape_lookAtClass_26 : decode prog_10_method_10_code 26 = .ok (.ifCond .eq 49, 3) := by decide +kernel
theorem gd_Tape_lookAtClass_29 : decode prog_10_method_10_code 29 = .ok (.aload_n 0, 1) := by decide +kernel
theorem gd_Tape_lookAtClass_30 : decode prog_10_method_10_code 30 = .ok (.aload_n 0, 1) := by decide +kernel
theorem gd_Tape_lookAtClass_31 : decode prog_10_method_10_code 31 = .ok (.getfield 22, 3) := by decide +kernel
theorem gd_Tape_lookAtClass_34 : decode prog_10_method_10_code 34 = .ok (.iconst 2, 1) := by decide +kernel
theorem gd_Tape_lookAtClass_35 : decode prog_10_method_10_code 35 = .ok (.iadd, 1) := by decide +kernel
theorem gd_Tape_lookAtClass_36 : decode prog_10_method_10_code 36 = .ok (.invokevirtual 25, 3) := by decide +kernel
theorem gd_Tape_lookAtClass_39 : decode prog_10_method_10_code 39 = .ok (.bipush 45, 2) := by decide +kernel
theorem gd_Tape_lookAtClass_41 : decode prog_10_method_10_code 41 = .ok (.if_icmp .ne 34, 3) := by decide +kernel
theorem gd_Tape_lookAtClass_44 : decode prog_10_method_10_code 44 = .ok (.iload_n 2, 1) := by decide +kernel
theorem gd_Tape_lookAtClass_45 : decode prog_10_method_10_code 45 = .ok (.invokestatic 48, 3) := by decide +kernel
theorem gd_Tape_lookAtClass_48 : decode prog_10_method_10_code 48 = .ok (.ifCond .eq 27, 3) := by decide +kernel
theorem gd_Tape_lookAtClass_51 : decode prog_10_method_10_code 51 = .ok (.iload_n 1, 1) := by decide +kernel
theorem gd_Tape_lookAtClass_52 : decode prog_10_method_10_code 52 = .ok (.iload_n 2, 1) := by decide +kernel
theorem gd_Tape_lookAtClass_53 : decode prog_10_method_10_code 53 = .ok (.if_icmp .gt 22, 3) := by decide +kernel
theorem gd_Tape_lookAtClass_56 : decode prog_10_method_10_code 56 = .ok (.aload_n 0, 1) := by decide +kernel
theorem gd_Tape_lookAtClass_57 : decode prog_10_method_10_code 57 = .ok (.aload_n 0, 1) := by decide +kernel
theorem gd_Tape_lookAtClass_58 : decode prog_10_method_10_code 58 = .ok (.getfield 22, 3) := by decide +kernel
theorem gd_Tape_lookAtClass_61 : decode prog_10_method_10_code 61 = .ok (.iconst 4, 1) := by decide +kernel
theorem gd_Tape_lookAtClass_62 : decode prog_10_method_10_code 62 = .ok (.iadd, 1) := by decide +kernel
theorem gd_Tape_lookAtClass_63 : decode prog_10_method_10_code 63 = .ok (.invokevirtual 25, 3) := by decide +kernel
theorem gd_Tape_lookAtClass_66 : decode prog_10_method_10_code 66 = .ok (.bipush 93, 2) := by decide +kernel
theorem gd_Tape_lookAtClass_68 : decode prog_10_method_10_code 68 = .ok (.if_icmp .ne 7, 3) := by decide +kernel
theorem gd_Tape_lookAtClass_71 : decode prog_10_method_10_code 71 = .ok (.iconst 1, 1) := by decide +kernel
theorem gd_Tape_lookAtClass_72 : decode prog_10_method_10_code 72 = .ok (.goto 4, 3) := by decide +kernel
theorem gd_Tape_lookAtClass_75 : decode prog_10_method_10_code 75 = .ok (.iconst 0, 1) := by decide +kernel
theorem gd_Tape_lookAtClass_76 : decode prog_10_method_10_code 76 = .ok (.istore_n 3, 1) := by decide +kernel
theorem gd_Tape_lookAtClass_77 : decode prog_10_method_10_code 77 = .ok (.aload_n 0, 1) := by decide +kernel
theorem gd_Tape_lookAtClass_78 : decode prog_10_method_10_code 78 = .ok (.iload_n 3, 1) := by decide +kernel
theorem gd_Tape_lookAtClass_79 : decode prog_10_method_10_code 79 = .ok (.ifCond .eq 7, 3) := by decide +kernel
theorem gd_Tape_lookAtClass_82 : decode prog_10_method_10_code 82 = .ok (.iconst 3, 1) := by decide +kernel
theorem gd_Tape_lookAtClass_83 : decode prog_10_method_10_code 83 = .ok (.goto 4, 3) := by decide +kernel
theorem gd_Tape_lookAtClass_86 : decode prog_10_method_10_code 86 = .ok (.iconst 5, 1) := by decide +kernel
theorem gd_Tape_lookAtClass_87 : decode prog_10_method_10_code 87 = .ok (.putfield 29, 3) := by decide +kernel
theorem gd_Tape_lookAtClass_90 : decode prog_10_method_10_code 90 = .ok (.aload_n 0, 1) := by decide +kernel
theorem gd_Tape_lookAtClass_91 : decode prog_10_method_10_code 91 = .ok (.aload_n 0, 1) := by decide +kernel
theorem gd_Tape_lookAtClass_92 : decode prog_10_method_10_code 92 = .ok (.getfield 22, 3) := by decide +kernel
theorem gd_Tape_lookAtClass_95 : decode prog_10_method_10_code 95 = .ok (.iconst 5, 1) := by decide +kernel
theorem gd_Tape_lookAtClass_96 : decode prog_10_method_10_code 96 = .ok (.iadd, 1) := by decide +kernel
theorem gd_Tape_lookAtClass_97 : decode prog_10_method_10_code 97 = .ok (.putfield 19, 3) := by decide +kernel
theorem gd_Tape_lookAtClass_100 : decode prog_10_method_10_code 100 = .ok (.return_, 1) := by decide +kernel
theorem gd_Tape_isMark_0 : decode prog_10_method_13_code 0 = .ok (.iload_n 0, 1) := by decide +kernel
theorem gd_Tape_isMark_1 : decode prog_10_method_13_code 1 = .ok (.bipush 58, 2) := by decide +kernel
theorem gd_Tape_isMark_3 : decode prog_10_method_13_code 3 = .ok (.if_icmp .eq 45, 3) := by decide +kernel
theorem gd_Tape_isMark_6 : decode prog_10_method_13_code 6 = .ok (.iload_n 0, 1) := by decide +kernel
theorem gd_Tape_isMark_7 : decode prog_10_method_13_code 7 = .ok (.bipush 59, 2) := by decide +kernel
theorem gd_Tape_isMark_9 : decode prog_10_method_13_code 9 = .ok (.if_icmp .eq 39, 3) := by decide +kernel
theorem gd_Tape_isMark_12 : decode prog_10_method_13_code 12 = .ok (.iload_n 0, 1) := by decide +kernel
theorem gd_Tape_isMark_13 : decode prog_10_method_13_code 13 = .ok (.bipush 124, 2) := by decide +kernel
theorem gd_Tape_isMark_15 : decode prog_10_method_13_code 15 = .ok (.if_icmp .eq 33, 3) := by decide +kernel
theorem gd_Tape_isMark_18 : decode prog_10_method_13_code 18 = .ok (.iload_n 0, 1) := by decide +kernel
theorem gd_Tape_isMark_19 : decode prog_10_method_13_code 19 = .ok (.bipush 40, 2) := by decide +kernel
theorem gd_Tape_isMark_21 : decode prog_10_method_13_code 21 = .ok (.if_icmp .eq 27, 3) := by decide +kernel
theorem gd_Tape_isMark_24 : decode prog_10_method_13_code 24 = .ok (.iload_n 0, 1) := by decide +kernel
theorem gd_Tape_isMark_25 : decode prog_10_method_13_code 25 = .ok (.bipush 41, 2) := by decide +kernel
theorem gd_Tape_isMark_27 : decode prog_10_method_13_code 27 = .ok (.if_icmp .eq 21, 3) := by decide +kernel
theorem gd_Tape_isMark_30 : decode prog_10_method_13_code 30 = .ok (.iload_n 0, 1) := by decide +kernel
theorem gd_Tape_isMark_31 : decode prog_10_method_13_code 31 = .ok (.bipush 63, 2) := by decide +kernel
theorem gd_Tape_isMark_33 : decode prog_10_method_13_code 33 = .ok (.if_icmp .eq 15, 3) := by decide +kernel
theorem gd_Tape_isMark_36 : decode prog_10_method_13_code 36 = .ok (.iload_n 0, 1) := by decide +kernel
theorem gd_Tape_isMark_37 : decode prog_10_method_13_code 37 = .ok (.bipush 42, 2) := by decide +kernel
theorem gd_Tape_isMark_39 : decode prog_10_method_13_code 39 = .ok (.if_icmp .eq 9, 3) := by decide +kernel
theorem gd_Tape_isMark_42 : decode prog_10_method_13_code 42 = .ok (.iload_n 0, 1) := by decide +kernel
theorem gd_Tape_isMark_43 : decode prog_10_method_13_code 43 = .ok (.bipush 43, 2) := by decide +kernel
theorem gd_Tape_isMark_45 : decode prog_10_method_13_code 45 = .ok (.if_icmp .ne 7, 3) := by decide +kernel
theorem gd_Tape_isMark_48 : decode prog_10_method_13_code 48 = .ok (.iconst 1, 1) := by decide +kernel
theorem gd_Tape_isMark_49 : decode prog_10_method_13_code 49 = .ok (.goto 4, 3) := by decide +kernel
theorem gd_Tape_isMark_52 : decode prog_10_method_13_code 52 = .ok (.iconst 0, 1) := by decide +kernel
theorem gd_Tape_isMark_53 : decode prog_10_method_13_code 53 = .ok (.ireturn, 1) := by decide +kernel
theorem gd_Reader_faultHere_0 : decode prog_9_method_4_code 0 = .ok (.aload_n 0, 1) := by decide +kernel
theorem gd_Reader_faultHere_1 : decode prog_9_method_4_code 1 = .ok (.getfield 29, 3) := by decide +kernel
theorem gd_Reader_faultHere_4 : decode prog_9_method_4_code 4 = .ok (.getfield 55, 3) := by decide +kernel
theorem gd_Reader_faultHere_7 : decode prog_9_method_4_code 7 = .ok (.iconst 5, 1) := by decide +kernel
theorem gd_Reader_faultHere_8 : decode prog_9_method_4_code 8 = .ok (.if_icmp .ne 5, 3) := by decide +kernel
theorem gd_Reader_faultHere_11 : decode prog_9_method_4_code 11 = .ok (.iconst 1, 1) := by decide +kernel
theorem gd_Reader_faultHere_12 : decode prog_9_method_4_code 12 = .ok (.ireturn, 1) := by decide +kernel
theorem gd_Reader_faultHere_13 : decode prog_9_method_4_code 13 = .ok (.aload_n 0, 1) := by decide +kernel
theorem gd_Reader_faultHere_14 : decode prog_9_method_4_code 14 = .ok (.invokevirtual 72, 3) := by decide +kernel
theorem gd_Reader_faultHere_17 : decode prog_9_method_4_code 17 = .ok (.ifCond .ne 5, 3) := by decide +kernel
theorem gd_Reader_faultHere_20 : decode prog_9_method_4_code 20 = .ok (.iconst 2, 1) := by decide +kernel
theorem gd_Reader_faultHere_21 : decode prog_9_method_4_code 21 = .ok (.ireturn, 1) := by decide +kernel
theorem gd_Reader_faultHere_22 : decode prog_9_method_4_code 22 = .ok (.aload_n 0, 1) := by decide +kernel
theorem gd_Reader_faultHere_23 : decode prog_9_method_4_code 23 = .ok (.invokevirtual 75, 3) := by decide +kernel
theorem gd_Reader_faultHere_26 : decode prog_9_method_4_code 26 = .ok (.ifCond .eq 5, 3) := by decide +kernel
theorem gd_Reader_faultHere_29 : decode prog_9_method_4_code 29 = .ok (.iconst 3, 1) := by decide +kernel
theorem gd_Reader_faultHere_30 : decode prog_9_method_4_code 30 = .ok (.ireturn, 1) := by decide +kernel
theorem gd_Reader_faultHere_31 : decode prog_9_method_4_code 31 = .ok (.aload_n 0, 1) := by decide +kernel
theorem gd_Reader_faultHere_32 : decode prog_9_method_4_code 32 = .ok (.getfield 41, 3) := by decide +kernel
theorem gd_Reader_faultHere_35 : decode prog_9_method_4_code 35 = .ok (.ifCond .ne 36, 3) := by decide +kernel
theorem gd_Reader_faultHere_38 : decode prog_9_method_4_code 38 = .ok (.aload_n 0, 1) := by decide +kernel
theorem gd_Reader_faultHere_39 : decode prog_9_method_4_code 39 = .ok (.getfield 29, 3) := by decide +kernel
theorem gd_Reader_faultHere_42 : decode prog_9_method_4_code 42 = .ok (.getfield 55, 3) := by decide +kernel
theorem gd_Reader_faultHere_45 : decode prog_9_method_4_code 45 = .ok (.iconst 1, 1) := by decide +kernel
theorem gd_Reader_faultHere_46 : decode prog_9_method_4_code 46 = .ok (.if_icmp .ne 25, 3) := by decide +kernel
theorem gd_Reader_faultHere_49 : decode prog_9_method_4_code 49 = .ok (.aload_n 0, 1) := by decide +kernel
theorem gd_Reader_faultHere_50 : decode prog_9_method_4_code 50 = .ok (.getfield 12, 3) := by decide +kernel
theorem gd_Reader_faultHere_53 : decode prog_9_method_4_code 53 = .ok (.aload_n 0, 1) := by decide +kernel
theorem gd_Reader_faultHere_54 : decode prog_9_method_4_code 54 = .ok (.getfield 29, 3) := by decide +kernel
theorem gd_Reader_faultHere_57 : decode prog_9_method_4_code 57 = .ok (.invokevirtual 65, 3) := by decide +kernel
theorem gd_Reader_faultHere_60 : decode prog_9_method_4_code 60 = .ok (.invokevirtual 68, 3) := by decide +kernel
theorem gd_Reader_faultHere_63 : decode prog_9_method_4_code 63 = .ok (.iconst (-1), 1) := by decide +kernel
theorem gd_Reader_faultHere_64 : decode prog_9_method_4_code 64 = .ok (.if_icmp .eq 7, 3) := by decide +kernel
theorem gd_Reader_faultHere_67 : decode prog_9_method_4_code 67 = .ok (.iconst 4, 1) := by decide +kernel
theorem gd_Reader_faultHere_68 : decode prog_9_method_4_code 68 = .ok (.goto 4, 3) := by decide +kernel
theorem gd_Reader_faultHere_71 : decode prog_9_method_4_code 71 = .ok (.iconst 0, 1) := by decide +kernel
theorem gd_Reader_faultHere_72 : decode prog_9_method_4_code 72 = .ok (.ireturn, 1) := by decide +kernel
theorem gd_Reader_canStand_0 : decode prog_9_method_5_code 0 = .ok (.aload_n 0, 1) := by decide +kernel
theorem gd_Reader_canStand_1 : decode prog_9_method_5_code 1 = .ok (.getfield 41, 3) := by decide +kernel
theorem gd_Reader_canStand_4 : decode prog_9_method_5_code 4 = .ok (.ifCond .ne 41, 3) := by decide +kernel
theorem gd_Reader_canStand_7 : decode prog_9_method_5_code 7 = .ok (.aload_n 0, 1) := by decide +kernel
theorem gd_Reader_canStand_8 : decode prog_9_method_5_code 8 = .ok (.getfield 29, 3) := by decide +kernel
theorem gd_Reader_canStand_11 : decode prog_9_method_5_code 11 = .ok (.getfield 55, 3) := by decide +kernel
theorem gd_Reader_canStand_14 : decode prog_9_method_5_code 14 = .ok (.iconst 1, 1) := by decide +kernel
theorem gd_Reader_canStand_15 : decode prog_9_method_5_code 15 = .ok (.if_icmp .eq 24, 3) := by decide +kernel
theorem gd_Reader_canStand_18 : decode prog_9_method_5_code 18 = .ok (.aload_n 0, 1) := by decide +kernel
theorem gd_Reader_canStand_19 : decode prog_9_method_5_code 19 = .ok (.getfield 29, 3) := by decide +kernel
theorem gd_Reader_canStand_22 : decode prog_9_method_5_code 22 = .ok (.getfield 55, 3) := by decide +kernel
theorem gd_Reader_canStand_25 : decode prog_9_method_5_code 25 = .ok (.iconst 4, 1) := by decide +kernel
theorem gd_Reader_canStand_26 : decode prog_9_method_5_code 26 = .ok (.if_icmp .ne 17, 3) := by decide +kernel
theorem gd_Reader_canStand_29 : decode prog_9_method_5_code 29 = .ok (.aload_n 0, 1) := by decide +kernel
theorem gd_Reader_canStand_30 : decode prog_9_method_5_code 30 = .ok (.getfield 12, 3) := by decide +kernel
theorem gd_Reader_canStand_33 : decode prog_9_method_5_code 33 = .ok (.getfield 78, 3) := by decide +kernel
theorem gd_Reader_canStand_36 : decode prog_9_method_5_code 36 = .ok (.ifCond .le 7, 3) := by decide +kernel
theorem gd_Reader_canStand_39 : decode prog_9_method_5_code 39 = .ok (.iconst 1, 1) := by decide +kernel
theorem gd_Reader_canStand_40 : decode prog_9_method_5_code 40 = .ok (.goto 4, 3) := by decide +kernel
theorem gd_Reader_canStand_43 : decode prog_9_method_5_code 43 = .ok (.iconst 0, 1) := by decide +kernel
theorem gd_Reader_canStand_44 : decode prog_9_method_5_code 44 = .ok (.ireturn, 1) := by decide +kernel
theorem gd_Reader_canStand_45 : decode prog_9_method_5_code 45 = .ok (.aload_n 0, 1) := by decide +kernel
theorem gd_Reader_canStand_46 : decode prog_9_method_5_code 46 = .ok (.getfield 41, 3) := by decide +kernel
theorem gd_Reader_canStand_49 : decode prog_9_method_5_code 49 = .ok (.iconst 1, 1) := by decide +kernel
theorem gd_Reader_canStand_50 : decode prog_9_method_5_code 50 = .ok (.if_icmp .ne 21, 3) := by decide +kernel
theorem gd_Reader_canStand_53 : decode prog_9_method_5_code 53 = .ok (.aload_n 0, 1) := by decide +kernel
theorem gd_Reader_canStand_54 : decode prog_9_method_5_code 54 = .ok (.getfield 29, 3) := by decide +kernel
theorem gd_Reader_canStand_57 : decode prog_9_method_5_code 57 = .ok (.getfield 55, 3) := by decide +kernel
theorem gd_Reader_canStand_60 : decode prog_9_method_5_code 60 = .ok (.bipush 58, 2) := by decide +kernel
theorem gd_Reader_canStand_62 : decode prog_9_method_5_code 62 = .ok (.if_icmp .ne 7, 3) := by decide +kernel
theorem gd_Reader_canStand_65 : decode prog_9_method_5_code 65 = .ok (.iconst 1, 1) := by decide +kernel
theorem gd_Reader_canStand_66 : decode prog_9_method_5_code 66 = .ok (.goto 4, 3) := by decide +kernel
theorem gd_Reader_canStand_69 : decode prog_9_method_5_code 69 = .ok (.iconst 0, 1) := by decide +kernel
theorem gd_Reader_canStand_70 : decode prog_9_method_5_code 70 = .ok (.ireturn, 1) := by decide +kernel
theorem gd_Reader_canStand_71 : decode prog_9_method_5_code 71 = .ok (.aload_n 0, 1) := by decide +kernel
theorem gd_Reader_canStand_72 : decode prog_9_method_5_code 72 = .ok (.getfield 29, 3) := by decide +kernel
theorem gd_Reader_canStand_75 : decode prog_9_method_5_code 75 = .ok (.getfield 55, 3) := by decide +kernel
theorem gd_Reader_canStand_78 : decode prog_9_method_5_code 78 = .ok (.lookupswitch 131 #[(1, 90), (2, 90), (3, 90), (40, 90), (41, 105), (42, 118), (43, 118), (59, 92), (63, 118), (124, 90)], 90) := by decide +kernel
theorem gd_Reader_canStand_168 : decode prog_9_method_5_code 168 = .ok (.iconst 1, 1) := by decide +kernel
theorem gd_Reader_canStand_169 : decode prog_9_method_5_code 169 = .ok (.ireturn, 1) := by decide +kernel
theorem gd_Reader_canStand_170 : decode prog_9_method_5_code 170 = .ok (.aload_n 0, 1) := by decide +kernel
theorem gd_Reader_canStand_171 : decode prog_9_method_5_code 171 = .ok (.getfield 81, 3) := by decide +kernel
theorem gd_Reader_canStand_174 : decode prog_9_method_5_code 174 = .ok (.ifCond .ne 7, 3) := by decide +kernel
theorem gd_Reader_canStand_177 : decode prog_9_method_5_code 177 = .ok (.iconst 1, 1) := by decide +kernel
theorem gd_Reader_canStand_178 : decode prog_9_method_5_code 178 = .ok (.goto 4, 3) := by decide +kernel
theorem gd_Reader_canStand_181 : decode prog_9_method_5_code 181 = .ok (.iconst 0, 1) := by decide +kernel
theorem gd_Reader_canStand_182 : decode prog_9_method_5_code 182 = .ok (.ireturn, 1) := by decide +kernel
theorem gd_Reader_canStand_183 : decode prog_9_method_5_code 183 = .ok (.aload_n 0, 1) := by decide +kernel
theorem gd_Reader_canStand_184 : decode prog_9_method_5_code 184 = .ok (.getfield 81, 3) := by decide +kernel
theorem gd_Reader_canStand_187 : decode prog_9_method_5_code 187 = .ok (.ifCond .le 7, 3) := by decide +kernel
theorem gd_Reader_canStand_190 : decode prog_9_method_5_code 190 = .ok (.iconst 1, 1) := by decide +kernel
theorem gd_Reader_canStand_191 : decode prog_9_method_5_code 191 = .ok (.goto 4, 3) := by decide +kernel
theorem gd_Reader_canStand_194 : decode prog_9_method_5_code 194 = .ok (.iconst 0, 1) := by decide +kernel
theorem gd_Reader_canStand_195 : decode prog_9_method_5_code 195 = .ok (.ireturn, 1) := by decide +kernel
theorem gd_Reader_canStand_196 : decode prog_9_method_5_code 196 = .ok (.aload_n 0, 1) := by decide +kernel
theorem gd_Reader_canStand_197 : decode prog_9_method_5_code 197 = .ok (.getfield 84, 3) := by decide +kernel
theorem gd_Reader_canStand_200 : decode prog_9_method_5_code 200 = .ok (.ifCond .le 7, 3) := by decide +kernel
theorem gd_Reader_canStand_203 : decode prog_9_method_5_code 203 = .ok (.iconst 1, 1) := by decide +kernel
theorem gd_Reader_canStand_204 : decode prog_9_method_5_code 204 = .ok (.goto 4, 3) := by decide +kernel
theorem gd_Reader_canStand_207 : decode prog_9_method_5_code 207 = .ok (.iconst 0, 1) := by decide +kernel
theorem gd_Reader_canStand_208 : decode prog_9_method_5_code 208 = .ok (.ireturn, 1) := by decide +kernel
theorem gd_Reader_canStand_209 : decode prog_9_method_5_code 209 = .ok (.iconst 0, 1) := by decide +kernel
theorem gd_Reader_canStand_210 : decode prog_9_method_5_code 210 = .ok (.ireturn, 1) := by decide +kernel
theorem gd_Reader_isTooMuch_0 : decode prog_9_method_6_code 0 = .ok (.aload_n 0, 1) := by decide +kernel
theorem gd_Reader_isTooMuch_1 : decode prog_9_method_6_code 1 = .ok (.getfield 29, 3) := by decide +kernel
theorem gd_Reader_isTooMuch_4 : decode prog_9_method_6_code 4 = .ok (.getfield 55, 3) := by decide +kernel
theorem gd_Reader_isTooMuch_7 : decode prog_9_method_6_code 7 = .ok (.lookupswitch 275 #[(1, 89), (2, 89), (3, 89), (40, 159), (41, 191), (42, 243), (43, 243), (59, 173), (63, 243), (124, 173)], 89) := by decide +kernel
theorem gd_Reader_isTooMuch_96 : decode prog_9_method_6_code 96 = .ok (.aload_n 0, 1) := by decide +kernel
theorem gd_Reader_isTooMuch_97 : decode prog_9_method_6_code 97 = .ok (.getfield 41, 3) := by decide +kernel
theorem gd_Reader_isTooMuch_100 : decode prog_9_method_6_code 100 = .ok (.ifCond .ne 39, 3) := by decide +kernel
theorem gd_Reader_isTooMuch_103 : decode prog_9_method_6_code 103 = .ok (.aload_n 0, 1) := by decide +kernel
theorem gd_Reader_isTooMuch_104 : decode prog_9_method_6_code 104 = .ok (.getfield 12, 3) := by decide +kernel
theorem gd_Reader_isTooMuch_107 : decode prog_9_method_6_code 107 = .ok (.invokevirtual 87, 3) := by decide +kernel
theorem gd_Reader_isTooMuch_110 : decode prog_9_method_6_code 110 = .ok (.bipush 8, 2) := by decide +kernel
theorem gd_Reader_isTooMuch_112 : decode prog_9_method_6_code 112 = .ok (.if_icmp .lt 25, 3) := by decide +kernel
theorem gd_Reader_isTooMuch_115 : decode prog_9_method_6_code 115 = .ok (.aload_n 0, 1) := by decide +kernel
theorem gd_Reader_isTooMuch_116 : decode prog_9_method_6_code 116 = .ok (.getfield 12, 3) := by decide +kernel
theorem gd_Reader_isTooMuch_119 : decode prog_9_method_6_code 119 = .ok (.aload_n 0, 1) := by decide +kernel
theorem gd_Reader_isTooMuch_120 : decode prog_9_method_6_code 120 = .ok (.getfield 29, 3) := by decide +kernel
theorem gd_Reader_isTooMuch_123 : decode prog_9_method_6_code 123 = .ok (.invokevirtual 65, 3) := by decide +kernel
theorem gd_Reader_isTooMuch_126 : decode prog_9_method_6_code 126 = .ok (.invokevirtual 68, 3) := by decide +kernel
theorem gd_Reader_isTooMuch_129 : decode prog_9_method_6_code 129 = .ok (.iconst (-1), 1) := by decide +kernel
theorem gd_Reader_isTooMuch_130 : decode prog_9_method_6_code 130 = .ok (.if_icmp .ne 7, 3) := by decide +kernel
theorem gd_Reader_isTooMuch_133 : decode prog_9_method_6_code 133 = .ok (.iconst 1, 1) := by decide +kernel
theorem gd_Reader_isTooMuch_134 : decode prog_9_method_6_code 134 = .ok (.goto 4, 3) := by decide +kernel
theorem gd_Reader_isTooMuch_137 : decode prog_9_method_6_code 137 = .ok (.iconst 0, 1) := by decide +kernel
theorem gd_Reader_isTooMuch_138 : decode prog_9_method_6_code 138 = .ok (.ireturn, 1) := by decide +kernel
theorem gd_Reader_isTooMuch_139 : decode prog_9_method_6_code 139 = .ok (.aload_n 0, 1) := by decide +kernel
theorem gd_Reader_isTooMuch_140 : decode prog_9_method_6_code 140 = .ok (.getfield 22, 3) := by decide +kernel
theorem gd_Reader_isTooMuch_143 : decode prog_9_method_6_code 143 = .ok (.aload_n 0, 1) := by decide +kernel
theorem gd_Reader_isTooMuch_144 : decode prog_9_method_6_code 144 = .ok (.getfield 81, 3) := by decide +kernel
theorem gd_Reader_isTooMuch_147 : decode prog_9_method_6_code 147 = .ok (.iaload, 1) := by decide +kernel
theorem gd_Reader_isTooMuch_148 : decode prog_9_method_6_code 148 = .ok (.aload_n 0, 1) := by decide +kernel
theorem gd_Reader_isTooMuch_149 : decode prog_9_method_6_code 149 = .ok (.getfield 29, 3) := by decide +kernel
theorem gd_Reader_isTooMuch_152 : decode prog_9_method_6_code 152 = .ok (.invokevirtual 90, 3) := by decide +kernel
theorem gd_Reader_isTooMuch_155 : decode prog_9_method_6_code 155 = .ok (.iadd, 1) := by decide +kernel
theorem gd_Reader_isTooMuch_156 : decode prog_9_method_6_code 156 = .ok (.iconst 4, 1) := by decide +kernel
theorem gd_Reader_isTooMuch_157 : decode prog_9_method_6_code 157 = .ok (.if_icmp .le 7, 3) := by decide +kernel
theorem gd_Reader_isTooMuch_160 : decode prog_9_method_6_code 160 = .ok (.iconst 1, 1) := by decide +kernel
theorem gd_Reader_isTooMuch_161 : decode prog_9_method_6_code 161 = .ok (.goto 4, 3) := by decide +kernel
theorem gd_Reader_isTooMuch_164 : decode prog_9_method_6_code 164 = .ok (.iconst 0, 1) := by decide +kernel
theorem gd_Reader_isTooMuch_165 : decode prog_9_method_6_code 165 = .ok (.ireturn, 1) := by decide +kernel
theorem gd_Reader_isTooMuch_166 : decode prog_9_method_6_code 166 = .ok (.aload_n 0, 1) := by decide +kernel
theorem gd_Reader_isTooMuch_167 : decode prog_9_method_6_code 167 = .ok (.getfield 81, 3) := by decide +kernel
theorem gd_Reader_isTooMuch_170 : decode prog_9_method_6_code 170 = .ok (.iconst 3, 1) := by decide +kernel
theorem gd_Reader_isTooMuch_171 : decode prog_9_method_6_code 171 = .ok (.if_icmp .lt 7, 3) := by decide +kernel
theorem gd_Reader_isTooMuch_174 : decode prog_9_method_6_code 174 = .ok (.iconst 1, 1) := by decide +kernel
theorem gd_Reader_isTooMuch_175 : decode prog_9_method_6_code 175 = .ok (.goto 4, 3) := by decide +kernel
theorem gd_Reader_isTooMuch_178 : decode prog_9_method_6_code 178 = .ok (.iconst 0, 1) := by decide +kernel
theorem gd_Reader_isTooMuch_179 : decode prog_9_method_6_code 179 = .ok (.ireturn, 1) := by decide +kernel
theorem gd_Reader_isTooMuch_180 : decode prog_9_method_6_code 180 = .ok (.aload_n 0, 1) := by decide +kernel
theorem gd_Reader_isTooMuch_181 : decode prog_9_method_6_code 181 = .ok (.getfield 12, 3) := by decide +kernel
theorem gd_Reader_isTooMuch_184 : decode prog_9_method_6_code 184 = .ok (.getfield 93, 3) := by decide +kernel
theorem gd_Reader_isTooMuch_187 : decode prog_9_method_6_code 187 = .ok (.bipush 20, 2) := by decide +kernel
theorem gd_Reader_isTooMuch_189 : decode prog_9_method_6_code 189 = .ok (.if_icmp .lt 7, 3) := by decide +kernel
theorem gd_Reader_isTooMuch_192 : decode prog_9_method_6_code 192 = .ok (.iconst 1, 1) := by decide +kernel
theorem gd_Reader_isTooMuch_193 : decode prog_9_method_6_code 193 = .ok (.goto 4, 3) := by decide +kernel
theorem gd_Reader_isTooMuch_196 : decode prog_9_method_6_code 196 = .ok (.iconst 0, 1) := by decide +kernel
theorem gd_Reader_isTooMuch_197 : decode prog_9_method_6_code 197 = .ok (.ireturn, 1) := by decide +kernel
theorem gd_Reader_isTooMuch_198 : decode prog_9_method_6_code 198 = .ok (.aload_n 0, 1) := by decide +kernel
theorem gd_Reader_isTooMuch_199 : decode prog_9_method_6_code 199 = .ok (.getfield 12, 3) := by decide +kernel
theorem gd_Reader_isTooMuch_202 : decode prog_9_method_6_code 202 = .ok (.getfield 93, 3) := by decide +kernel
theorem gd_Reader_isTooMuch_205 : decode prog_9_method_6_code 205 = .ok (.bipush 20, 2) := by decide +kernel
theorem gd_Reader_isTooMuch_207 : decode prog_9_method_6_code 207 = .ok (.if_icmp .ge 37, 3) := by decide +kernel
theorem gd_Reader_isTooMuch_210 : decode prog_9_method_6_code 210 = .ok (.aload_n 0, 1) := by decide +kernel
theorem gd_Reader_isTooMuch_211 : decode prog_9_method_6_code 211 = .ok (.getfield 12, 3) := by decide +kernel
theorem gd_Reader_isTooMuch_214 : decode prog_9_method_6_code 214 = .ok (.invokevirtual 87, 3) := by decide +kernel
theorem gd_Reader_isTooMuch_217 : decode prog_9_method_6_code 217 = .ok (.bipush 8, 2) := by decide +kernel
theorem gd_Reader_isTooMuch_219 : decode prog_9_method_6_code 219 = .ok (.if_icmp .ge 25, 3) := by decide +kernel
theorem gd_Reader_isTooMuch_222 : decode prog_9_method_6_code 222 = .ok (.aload_n 0, 1) := by decide +kernel
theorem gd_Reader_isTooMuch_223 : decode prog_9_method_6_code 223 = .ok (.getfield 81, 3) := by decide +kernel
theorem gd_Reader_isTooMuch_226 : decode prog_9_method_6_code 226 = .ok (.ifCond .le 22, 3) := by decide +kernel
theorem gd_Reader_isTooMuch_229 : decode prog_9_method_6_code 229 = .ok (.aload_n 0, 1) := by decide +kernel
theorem gd_Reader_isTooMuch_230 : decode prog_9_method_6_code 230 = .ok (.getfield 22, 3) := by decide +kernel
theorem gd_Reader_isTooMuch_233 : decode prog_9_method_6_code 233 = .ok (.aload_n 0, 1) := by decide +kernel
theorem gd_Reader_isTooMuch_234 : decode prog_9_method_6_code 234 = .ok (.getfield 81, 3) := by decide +kernel
theorem gd_Reader_isTooMuch_237 : decode prog_9_method_6_code 237 = .ok (.iconst 1, 1) := by decide +kernel
theorem gd_Reader_isTooMuch_238 : decode prog_9_method_6_code 238 = .ok (.isub, 1) := by decide +kernel
theorem gd_Reader_isTooMuch_239 : decode prog_9_method_6_code 239 = .ok (.iaload, 1) := by decide +kernel
theorem gd_Reader_isTooMuch_240 : decode prog_9_method_6_code 240 = .ok (.iconst 4, 1) := by decide +kernel
theorem gd_Reader_isTooMuch_241 : decode prog_9_method_6_code 241 = .ok (.if_icmp .lt 7, 3) := by decide +kernel
theorem gd_Reader_isTooMuch_244 : decode prog_9_method_6_code 244 = .ok (.iconst 1, 1) := by decide +kernel
theorem gd_Reader_isTooMuch_245 : decode prog_9_method_6_code 245 = .ok (.goto 4, 3) := by decide +kernel
theorem gd_Reader_isTooMuch_248 : decode prog_9_method_6_code 248 = .ok (.iconst 0, 1) := by decide +kernel
theorem gd_Reader_isTooMuch_249 : decode prog_9_method_6_code 249 = .ok (.ireturn, 1) := by decide +kernel
theorem gd_Reader_isTooMuch_250 : decode prog_9_method_6_code 250 = .ok (.aload_n 0, 1) := by decide +kernel
theorem gd_Reader_isTooMuch_251 : decode prog_9_method_6_code 251 = .ok (.getfield 12, 3) := by decide +kernel
theorem gd_Reader_isTooMuch_254 : decode prog_9_method_6_code 254 = .ok (.getfield 93, 3) := by decide +kernel
theorem gd_Reader_isTooMuch_257 : decode prog_9_method_6_code 257 = .ok (.iconst 2, 1) := by decide +kernel
theorem gd_Reader_isTooMuch_258 : decode prog_9_method_6_code 258 = .ok (.iadd, 1) := by decide +kernel
theorem gd_Reader_isTooMuch_259 : decode prog_9_method_6_code 259 = .ok (.bipush 20, 2) := by decide +kernel
theorem gd_Reader_isTooMuch_261 : decode prog_9_method_6_code 261 = .ok (.if_icmp .gt 15, 3) := by decide +kernel
theorem gd_Reader_isTooMuch_264 : decode prog_9_method_6_code 264 = .ok (.aload_n 0, 1) := by decide +kernel
theorem gd_Reader_isTooMuch_265 : decode prog_9_method_6_code 265 = .ok (.getfield 12, 3) := by decide +kernel
theorem gd_Reader_isTooMuch_268 : decode prog_9_method_6_code 268 = .ok (.invokevirtual 87, 3) := by decide +kernel
theorem gd_Reader_isTooMuch_271 : decode prog_9_method_6_code 271 = .ok (.bipush 8, 2) := by decide +kernel
theorem gd_Reader_isTooMuch_273 : decode prog_9_method_6_code 273 = .ok (.if_icmp .lt 7, 3) := by decide +kernel
theorem gd_Reader_isTooMuch_276 : decode prog_9_method_6_code 276 = .ok (.iconst 1, 1) := by decide +kernel
theorem gd_Reader_isTooMuch_277 : decode prog_9_method_6_code 277 = .ok (.goto 4, 3) := by decide +kernel
theorem gd_Reader_isTooMuch_280 : decode prog_9_method_6_code 280 = .ok (.iconst 0, 1) := by decide +kernel
theorem gd_Reader_isTooMuch_281 : decode prog_9_method_6_code 281 = .ok (.ireturn, 1) := by decide +kernel
theorem gd_Reader_isTooMuch_282 : decode prog_9_method_6_code 282 = .ok (.iconst 0, 1) := by decide +kernel
theorem gd_Reader_isTooMuch_283 : decode prog_9_method_6_code 283 = .ok (.ireturn, 1) := by decide +kernel
theorem gd_Draft_allNames_0 : decode prog_3_method_3_code 0 = .ok (.aload_n 0, 1) := by decide +kernel
theorem gd_Draft_allNames_1 : decode prog_3_method_3_code 1 = .ok (.getfield 24, 3) := by decide +kernel
theorem gd_Draft_allNames_4 : decode prog_3_method_3_code 4 = .ok (.aload_n 0, 1) := by decide +kernel
theorem gd_Draft_allNames_5 : decode prog_3_method_3_code 5 = .ok (.getfield 28, 3) := by decide +kernel
theorem gd_Draft_allNames_8 : decode prog_3_method_3_code 8 = .ok (.iadd, 1) := by decide +kernel
theorem gd_Draft_allNames_9 : decode prog_3_method_3_code 9 = .ok (.ireturn, 1) := by decide +kernel
theorem gd_Tape_key_0 : decode prog_10_method_14_code 0 = .ok (.iconst 0, 1) := by decide +kernel
theorem gd_Tape_key_1 : decode prog_10_method_14_code 1 = .ok (.istore_n 1, 1) := by decide +kernel
theorem gd_Tape_key_2 : decode prog_10_method_14_code 2 = .ok (.aload_n 0, 1) := by decide +kernel
theorem gd_Tape_key_3 : decode prog_10_method_14_code 3 = .ok (.getfield 19, 3) := by decide +kernel
theorem gd_Tape_key_6 : decode prog_10_method_14_code 6 = .ok (.iconst 1, 1) := by decide +kernel
theorem gd_Tape_key_7 : decode prog_10_method_14_code 7 = .ok (.isub, 1) := by decide +kernel
theorem gd_Tape_key_8 : decode prog_10_method_14_code 8 = .ok (.istore_n 2, 1) := by decide +kernel
theorem gd_Tape_key_9 : decode prog_10_method_14_code 9 = .ok (.iload_n 2, 1) := by decide +kernel
theorem gd_Tape_key_10 : decode prog_10_method_14_code 10 = .ok (.aload_n 0, 1) := by decide +kernel
theorem gd_Tape_key_11 : decode prog_10_method_14_code 11 = .ok (.getfield 22, 3) := by decide +kernel
theorem gd_Tape_key_14 : decode prog_10_method_14_code 14 = .ok (.if_icmp .lt 21, 3) := by decide +kernel
theorem gd_Tape_key_17 : decode prog_10_method_14_code 17 = .ok (.iload_n 1, 1) := by decide +kernel
theorem gd_Tape_key_18 : decode prog_10_method_14_code 18 = .ok (.sipush 128, 3) := by decide +kernel
theorem gd_Tape_key_21 : decode prog_10_method_14_code 21 = .ok (.imul, 1) := by decide +kernel
theorem gd_Tape_key_22 : decode prog_10_method_14_code 22 = .ok (.aload_n 0, 1) := by decide +kernel
theorem gd_Tape_key_23 : decode prog_10_method_14_code 23 = .ok (.iload_n 2, 1) := by decide +kernel
theorem gd_Tape_key_24 : decode prog_10_method_14_code 24 = .ok (.invokevirtual 25, 3) := by decide +kernel
theorem gd_Tape_key_27 : decode prog_10_method_14_code 27 = .ok (.iadd, 1) := by decide +kernel
theorem gd_Tape_key_28 : decode prog_10_method_14_code 28 = .ok (.istore_n 1, 1) := by decide +kernel
theorem gd_Tape_key_29 : decode prog_10_method_14_code 29 = .ok (.iinc 2 (-1), 3) := by decide +kernel
theorem gd_Tape_key_32 : decode prog_10_method_14_code 32 = .ok (.goto (-23), 3) := by decide +kernel
theorem gd_Tape_key_35 : decode prog_10_method_14_code 35 = .ok (.iload_n 1, 1) := by decide +kernel
theorem gd_Tape_key_36 : decode prog_10_method_14_code 36 = .ok (.ireturn, 1) := by decide +kernel
theorem gd_Draft_find_0 : decode prog_3_method_4_code 0 = .ok (.iconst 0, 1) := by decide +kernel
theorem gd_Draft_find_1 : decode prog_3_method_4_code 1 = .ok (.istore_n 2, 1) := by decide +kernel
theorem gd_Draft_find_2 : decode prog_3_method_4_code 2 = .ok (.iload_n 2, 1) := by decide +kernel
theorem gd_Draft_find_3 : decode prog_3_method_4_code 3 = .ok (.aload_n 0, 1) := by decide +kernel
theorem gd_Draft_find_4 : decode prog_3_method_4_code 4 = .ok (.getfield 24, 3) := by decide +kernel
theorem gd_Draft_find_7 : decode prog_3_method_4_code 7 = .ok (.if_icmp .ge 27, 3) := by decide +kernel
theorem gd_Draft_find_10 : decode prog_3_method_4_code 10 = .ok (.iload_n 2, 1) := by decide +kernel
theorem gd_Draft_find_11 : decode prog_3_method_4_code 11 = .ok (.bipush 8, 2) := by decide +kernel
theorem gd_Draft_find_13 : decode prog_3_method_4_code 13 = .ok (.if_icmp .ge 21, 3) := by decide +kernel
theorem gd_Draft_find_16 : decode prog_3_method_4_code 16 = .ok (.aload_n 0, 1) := by decide +kernel
theorem gd_Draft_find_17 : decode prog_3_method_4_code 17 = .ok (.getfield 9, 3) := by decide +kernel
theorem gd_Draft_find_20 : decode prog_3_method_4_code 20 = .ok (.iload_n 2, 1) := by decide +kernel
theorem gd_Draft_find_21 : decode prog_3_method_4_code 21 = .ok (.iaload, 1) := by decide +kernel
theorem gd_Draft_find_22 : decode prog_3_method_4_code 22 = .ok (.iload_n 1, 1) := by decide +kernel
theorem gd_Draft_find_23 : decode prog_3_method_4_code 23 = .ok (.if_icmp .ne 5, 3) := by decide +kernel
theorem gd_Draft_find_26 : decode prog_3_method_4_code 26 = .ok (.iload_n 2, 1) := by decide +kernel
theorem gd_Draft_find_27 : decode prog_3_method_4_code 27 = .ok (.ireturn, 1) := by decide +kernel
theorem gd_Draft_find_28 : decode prog_3_method_4_code 28 = .ok (.iinc 2 1, 3) := by decide +kernel
theorem gd_Draft_find_31 : decode prog_3_method_4_code 31 = .ok (.goto (-29), 3) := by decide +kernel
theorem gd_Draft_find_34 : decode prog_3_method_4_code 34 = .ok (.iconst (-1), 1) := by decide +kernel
theorem gd_Draft_find_35 : decode prog_3_method_4_code 35 = .ok (.ireturn, 1) := by decide +kernel
theorem gd_Tape_width_0 : decode prog_10_method_15_code 0 = .ok (.aload_n 0, 1) := by decide +kernel
theorem gd_Tape_width_1 : decode prog_10_method_15_code 1 = .ok (.getfield 29, 3) := by decide +kernel
theorem gd_Tape_width_4 : decode prog_10_method_15_code 4 = .ok (.iconst 2, 1) := by decide +kernel
theorem gd_Tape_width_5 : decode prog_10_method_15_code 5 = .ok (.if_icmp .ne 17, 3) := by decide +kernel
theorem gd_Tape_width_8 : decode prog_10_method_15_code 8 = .ok (.aload_n 0, 1) := by decide +kernel
theorem gd_Tape_width_9 : decode prog_10_method_15_code 9 = .ok (.getfield 19, 3) := by decide +kernel
theorem gd_Tape_width_12 : decode prog_10_method_15_code 12 = .ok (.aload_n 0, 1) := by decide +kernel
theorem gd_Tape_width_13 : decode prog_10_method_15_code 13 = .ok (.getfield 22, 3) := by decide +kernel
theorem gd_Tape_width_16 : decode prog_10_method_15_code 16 = .ok (.isub, 1) := by decide +kernel
theorem gd_Tape_width_17 : decode prog_10_method_15_code 17 = .ok (.iconst 2, 1) := by decide +kernel
theorem gd_Tape_width_18 : decode prog_10_method_15_code 18 = .ok (.isub, 1) := by decide +kernel
theorem gd_Tape_width_19 : decode prog_10_method_15_code 19 = .ok (.goto 4, 3) := by decide +kernel
theorem gd_Tape_width_22 : decode prog_10_method_15_code 22 = .ok (.iconst 1, 1) := by decide +kernel
theorem gd_Tape_width_23 : decode prog_10_method_15_code 23 = .ok (.ireturn, 1) := by decide +kernel
theorem gd_Reader_take_0 : decode prog_9_method_7_code 0 = .ok (.aload_n 0, 1) := by decide +kernel
theorem gd_Reader_take_1 : decode prog_9_method_7_code 1 = .ok (.getfield 29, 3) := by decide +kernel
theorem gd_Reader_take_4 : decode prog_9_method_7_code 4 = .ok (.getfield 55, 3) := by decide +kernel
theorem gd_Reader_take_7 : decode prog_9_method_7_code 7 = .ok (.lookupswitch 182 #[(1, 73), (2, 73), (3, 73), (40, 97), (41, 137), (58, 80), (59, 125), (124, 118)], 73) := by decide +kernel
theorem gd_Reader_take_80 : decode prog_9_method_7_code 80 = .ok (.aload_n 0, 1) := by decide +kernel
theorem gd_Reader_take_81 : decode prog_9_method_7_code 81 = .ok (.invokevirtual 96, 3) := by decide +kernel
theorem gd_Reader_take_84 : decode prog_9_method_7_code 84 = .ok (.goto 116, 3) := by decide +kernel
theorem gd_Reader_take_87 : decode prog_9_method_7_code 87 = .ok (.aload_n 0, 1) := by decide +kernel
theorem gd_Reader_take_88 : decode prog_9_method_7_code 88 = .ok (.iconst 2, 1) := by decide +kernel
theorem gd_Reader_take_89 : decode prog_9_method_7_code 89 = .ok (.putfield 41, 3) := by decide +kernel
theorem gd_Reader_take_92 : decode prog_9_method_7_code 92 = .ok (.aload_n 0, 1) := by decide +kernel
theorem gd_Reader_take_93 : decode prog_9_method_7_code 93 = .ok (.iconst 0, 1) := by decide +kernel
theorem gd_Reader_take_94 : decode prog_9_method_7_code 94 = .ok (.putfield 81, 3) := by decide +kernel
theorem gd_Reader_take_97 : decode prog_9_method_7_code 97 = .ok (.aload_n 0, 1) := by decide +kernel
theorem gd_Reader_take_98 : decode prog_9_method_7_code 98 = .ok (.invokevirtual 99, 3) := by decide +kernel
theorem gd_Reader_take_101 : decode prog_9_method_7_code 101 = .ok (.goto 99, 3) := by decide +kernel
theorem gd_Reader_take_104 : decode prog_9_method_7_code 104 = .ok (.aload_n 0, 1) := by decide +kernel
theorem gd_Reader_take_105 : decode prog_9_method_7_code 105 = .ok (.aload_n 0, 1) := by decide +kernel
theorem gd_Reader_take_106 : decode prog_9_method_7_code 106 = .ok (.getfield 81, 3) := by decide +kernel
theorem gd_Reader_take_109 : decode prog_9_method_7_code 109 = .ok (.iconst 1, 1) := by decide +kernel
theorem gd_Reader_take_110 : decode prog_9_method_7_code 110 = .ok (.iadd, 1) := by decide +kernel
theorem gd_Reader_take_111 : decode prog_9_method_7_code 111 = .ok (.iconst 3, 1) := by decide +kernel
theorem gd_Reader_take_112 : decode prog_9_method_7_code 112 = .ok (.invokestatic 102, 3) := by decide +kernel
theorem gd_Reader_take_115 : decode prog_9_method_7_code 115 = .ok (.putfield 81, 3) := by decide +kernel
theorem gd_Reader_take_118 : decode prog_9_method_7_code 118 = .ok (.aload_n 0, 1) := by decide +kernel
theorem gd_Reader_take_119 : decode prog_9_method_7_code 119 = .ok (.invokevirtual 99, 3) := by decide +kernel
theorem gd_Reader_take_122 : decode prog_9_method_7_code 122 = .ok (.goto 78, 3) := by decide +kernel
theorem gd_Reader_take_125 : decode prog_9_method_7_code 125 = .ok (.aload_n 0, 1) := by decide +kernel
theorem gd_Reader_take_126 : decode prog_9_method_7_code 126 = .ok (.invokevirtual 108, 3) := by decide +kernel
theorem gd_Reader_take_129 : decode prog_9_method_7_code 129 = .ok (.goto 71, 3) := by decide +kernel
theorem gd_Reader_take_132 : decode prog_9_method_7_code 132 = .ok (.aload_n 0, 1) := by decide +kernel
theorem gd_Reader_take_133 : decode prog_9_method_7_code 133 = .ok (.invokevirtual 108, 3) := by decide +kernel
theorem gd_Reader_take_136 : decode prog_9_method_7_code 136 = .ok (.aload_n 0, 1) := by decide +kernel
theorem gd_Reader_take_137 : decode prog_9_method_7_code 137 = .ok (.iconst 0, 1) := by decide +kernel
theorem gd_Reader_take_138 : decode prog_9_method_7_code 138 = .ok (.putfield 41, 3) := by decide +kernel
theorem gd_Reader_take_141 : decode prog_9_method_7_code 141 = .ok (.goto 59, 3) := by decide +kernel
theorem gd_Reader_take_144 : decode prog_9_method_7_code 144 = .ok (.aload_n 0, 1) := by decide +kernel
theorem gd_Reader_take_145 : decode prog_9_method_7_code 145 = .ok (.invokevirtual 108, 3) := by decide +kernel
theorem gd_Reader_take_148 : decode prog_9_method_7_code 148 = .ok (.aload_n 0, 1) := by decide +kernel
theorem gd_Reader_take_149 : decode prog_9_method_7_code 149 = .ok (.getfield 12, 3) := by decide +kernel
theorem gd_Reader_take_152 : decode prog_9_method_7_code 152 = .ok (.aload_n 0, 1) := by decide +kernel
theorem gd_Reader_take_153 : decode prog_9_method_7_code 153 = .ok (.getfield 81, 3) := by decide +kernel
theorem gd_Reader_take_156 : decode prog_9_method_7_code 156 = .ok (.invokevirtual 111, 3) := by decide +kernel
theorem gd_Reader_take_159 : decode prog_9_method_7_code 159 = .ok (.istore_n 1, 1) := by decide +kernel
theorem gd_Reader_take_160 : decode prog_9_method_7_code 160 = .ok (.aload_n 0, 1) := by decide +kernel
theorem gd_Reader_take_161 : decode prog_9_method_7_code 161 = .ok (.aload_n 0, 1) := by decide +kernel
theorem gd_Reader_take_162 : decode prog_9_method_7_code 162 = .ok (.getfield 81, 3) := by decide +kernel
theorem gd_Reader_take_165 : decode prog_9_method_7_code 165 = .ok (.iconst 1, 1) := by decide +kernel
theorem gd_Reader_take_166 : decode prog_9_method_7_code 166 = .ok (.isub, 1) := by decide +kernel
theorem gd_Reader_take_167 : decode prog_9_method_7_code 167 = .ok (.iconst 0, 1) := by decide +kernel
theorem gd_Reader_take_168 : decode prog_9_method_7_code 168 = .ok (.invokestatic 114, 3) := by decide +kernel
theorem gd_Reader_take_171 : decode prog_9_method_7_code 171 = .ok (.putfield 81, 3) := by decide +kernel
theorem gd_Reader_take_174 : decode prog_9_method_7_code 174 = .ok (.aload_n 0, 1) := by decide +kernel
theorem gd_Reader_take_175 : decode prog_9_method_7_code 175 = .ok (.iconst (-1), 1) := by decide +kernel
theorem gd_Reader_take_176 : decode prog_9_method_7_code 176 = .ok (.iload_n 1, 1) := by decide +kernel
theorem gd_Reader_take_177 : decode prog_9_method_7_code 177 = .ok (.isub, 1) := by decide +kernel
theorem gd_Reader_take_178 : decode prog_9_method_7_code 178 = .ok (.invokevirtual 117, 3) := by decide +kernel
theorem gd_Reader_take_181 : decode prog_9_method_7_code 181 = .ok (.aload_n 0, 1) := by decide +kernel
theorem gd_Reader_take_182 : decode prog_9_method_7_code 182 = .ok (.iconst 1, 1) := by decide +kernel
theorem gd_Reader_take_183 : decode prog_9_method_7_code 183 = .ok (.putfield 84, 3) := by decide +kernel
theorem gd_Reader_take_186 : decode prog_9_method_7_code 186 = .ok (.goto 14, 3) := by decide +kernel
theorem gd_Reader_take_189 : decode prog_9_method_7_code 189 = .ok (.aload_n 0, 1) := by decide +kernel
theorem gd_Reader_take_190 : decode prog_9_method_7_code 190 = .ok (.aload_n 0, 1) := by decide +kernel
theorem gd_Reader_take_191 : decode prog_9_method_7_code 191 = .ok (.getfield 29, 3) := by decide +kernel
theorem gd_Reader_take_194 : decode prog_9_method_7_code 194 = .ok (.getfield 55, 3) := by decide +kernel
theorem gd_Reader_take_197 : decode prog_9_method_7_code 197 = .ok (.invokevirtual 121, 3) := by decide +kernel
theorem gd_Reader_take_200 : decode prog_9_method_7_code 200 = .ok (.return_, 1) := by decide +kernel
theorem gd_Reader_takeWord_0 : decode prog_9_method_8_code 0 = .ok (.aload_n 0, 1) := by decide +kernel
theorem gd_Reader_takeWord_1 : decode prog_9_method_8_code 1 = .ok (.getfield 41, 3) := by decide +kernel
theorem gd_Reader_takeWord_4 : decode prog_9_method_8_code 4 = .ok (.ifCond .ne 23, 3) := by decide +kernel
theorem gd_Reader_takeWord_7 : decode prog_9_method_8_code 7 = .ok (.aload_n 0, 1) := by decide +kernel
theorem gd_Reader_takeWord_8 : decode prog_9_method_8_code 8 = .ok (.getfield 12, 3) := by decide +kernel
theorem gd_Reader_takeWord_11 : decode prog_9_method_8_code 11 = .ok (.aload_n 0, 1) := by decide +kernel
theorem gd_Reader_takeWord_12 : decode prog_9_method_8_code 12 = .ok (.getfield 29, 3) := by decide +kernel
theorem gd_Reader_takeWord_15 : decode prog_9_method_8_code 15 = .ok (.invokevirtual 65, 3) := by decide +kernel
theorem gd_Reader_takeWord_18 : decode prog_9_method_8_code 18 = .ok (.invokevirtual 124, 3) := by decide +kernel
theorem gd_Reader_takeWord_21 : decode prog_9_method_8_code 21 = .ok (.aload_n 0, 1) := by decide +kernel
theorem gd_Reader_takeWord_22 : decode prog_9_method_8_code 22 = .ok (.iconst 1, 1) := by decide +kernel
theorem gd_Reader_takeWord_23 : decode prog_9_method_8_code 23 = .ok (.putfield 41, 3) := by decide +kernel
theorem gd_Reader_takeWord_26 : decode prog_9_method_8_code 26 = .ok (.return_, 1) := by decide +kernel
theorem gd_Reader_takeWord_27 : decode prog_9_method_8_code 27 = .ok (.aload_n 0, 1) := by decide +kernel
theorem gd_Reader_takeWord_28 : decode prog_9_method_8_code 28 = .ok (.getfield 29, 3) := by decide +kernel
theorem gd_Reader_takeWord_31 : decode prog_9_method_8_code 31 = .ok (.getfield 55, 3) := by decide +kernel
theorem gd_Reader_takeWord_34 : decode prog_9_method_8_code 34 = .ok (.iconst 1, 1) := by decide +kernel
theorem gd_Reader_takeWord_35 : decode prog_9_method_8_code 35 = .ok (.if_icmp .ne 19, 3) := by decide +kernel
theorem gd_Reader_takeWord_38 : decode prog_9_method_8_code 38 = .ok (.aload_n 0, 1) := by decide +kernel
theorem gd_Reader_takeWord_39 : decode prog_9_method_8_code 39 = .ok (.iconst (-1), 1) := by decide +kernel
theorem gd_Reader_takeWord_40 : decode prog_9_method_8_code 40 = .ok (.aload_n 0, 1) := by decide +kernel
theorem gd_Reader_takeWord_41 : decode prog_9_method_8_code 41 = .ok (.getfield 29, 3) := by decide +kernel
theorem gd_Reader_takeWord_44 : decode prog_9_method_8_code 44 = .ok (.invokevirtual 65, 3) := by decide +kernel
theorem gd_Reader_takeWord_47 : decode prog_9_method_8_code 47 = .ok (.isub, 1) := by decide +kernel
theorem gd_Reader_takeWord_48 : decode prog_9_method_8_code 48 = .ok (.invokevirtual 117, 3) := by decide +kernel
theorem gd_Reader_takeWord_51 : decode prog_9_method_8_code 51 = .ok (.goto 59, 3) := by decide +kernel
theorem gd_Reader_takeWord_54 : decode prog_9_method_8_code 54 = .ok (.aload_n 0, 1) := by decide +kernel
theorem gd_Reader_takeWord_55 : decode prog_9_method_8_code 55 = .ok (.getfield 29, 3) := by decide +kernel
theorem gd_Reader_takeWord_58 : decode prog_9_method_8_code 58 = .ok (.getfield 55, 3) := by decide +kernel
theorem gd_Reader_takeWord_61 : decode prog_9_method_8_code 61 = .ok (.iconst 3, 1) := by decide +kernel
theorem gd_Reader_takeWord_62 : decode prog_9_method_8_code 62 = .ok (.if_icmp .ne 17, 3) := by decide +kernel
theorem gd_Reader_takeWord_65 : decode prog_9_method_8_code 65 = .ok (.aload_n 0, 1) := by decide +kernel
theorem gd_Reader_takeWord_66 : decode prog_9_method_8_code 66 = .ok (.aload_n 0, 1) := by decide +kernel
theorem gd_Reader_takeWord_67 : decode prog_9_method_8_code 67 = .ok (.getfield 29, 3) := by decide +kernel
theorem gd_Reader_takeWord_70 : decode prog_9_method_8_code 70 = .ok (.invokevirtual 127, 3) := by decide +kernel
theorem gd_Reader_takeWord_73 : decode prog_9_method_8_code 73 = .ok (.invokevirtual 117, 3) := by decide +kernel
theorem gd_Reader_takeWord_76 : decode prog_9_method_8_code 76 = .ok (.goto 34, 3) := by decide +kernel
theorem gd_Reader_takeWord_79 : decode prog_9_method_8_code 79 = .ok (.iconst 0, 1) := by decide +kernel
theorem gd_Reader_takeWord_80 : decode prog_9_method_8_code 80 = .ok (.istore_n 1, 1) := by decide +kernel
theorem gd_Reader_takeWord_81 : decode prog_9_method_8_code 81 = .ok (.iload_n 1, 1) := by decide +kernel
theorem gd_Reader_takeWord_82 : decode prog_9_method_8_code 82 = .ok (.aload_n 0, 1) := by decide +kernel
theorem gd_Reader_takeWord_83 : decode prog_9_method_8_code 83 = .ok (.getfield 29, 3) := by decide +kernel
theorem gd_Reader_takeWord_86 : decode prog_9_method_8_code 86 = .ok (.invokevirtual 90, 3) := by decide +kernel
theorem gd_Reader_takeWord_89 : decode prog_9_method_8_code 89 = .ok (.if_icmp .ge 21, 3) := by decide +kernel
theorem gd_Reader_takeWord_92 : decode prog_9_method_8_code 92 = .ok (.aload_n 0, 1) := by decide +kernel
theorem gd_Reader_takeWord_93 : decode prog_9_method_8_code 93 = .ok (.aload_n 0, 1) := by decide +kernel
theorem gd_Reader_takeWord_94 : decode prog_9_method_8_code 94 = .ok (.getfield 29, 3) := by decide +kernel
theorem gd_Reader_takeWord_97 : decode prog_9_method_8_code 97 = .ok (.iload_n 1, 1) := by decide +kernel
theorem gd_Reader_takeWord_98 : decode prog_9_method_8_code 98 = .ok (.invokevirtual 130, 3) := by decide +kernel
theorem gd_Reader_takeWord_101 : decode prog_9_method_8_code 101 = .ok (.invokevirtual 117, 3) := by decide +kernel
theorem gd_Reader_takeWord_104 : decode prog_9_method_8_code 104 = .ok (.iinc 1 1, 3) := by decide +kernel
theorem gd_Reader_takeWord_107 : decode prog_9_method_8_code 107 = .ok (.goto (-26), 3) := by decide +kernel
theorem gd_Reader_takeWord_110 : decode prog_9_method_8_code 110 = .ok (.aload_n 0, 1) := by decide +kernel
theorem gd_Reader_takeWord_111 : decode prog_9_method_8_code 111 = .ok (.aload_n 0, 1) := by decide +kernel
theorem gd_Reader_takeWord_112 : decode prog_9_method_8_code 112 = .ok (.getfield 29, 3) := by decide +kernel
theorem gd_Reader_takeWord_115 : decode prog_9_method_8_code 115 = .ok (.invokevirtual 90, 3) := by decide +kernel
theorem gd_Reader_takeWord_118 : decode prog_9_method_8_code 118 = .ok (.putfield 84, 3) := by decide +kernel
theorem gd_Reader_takeWord_121 : decode prog_9_method_8_code 121 = .ok (.return_, 1) := by decide +kernel
theorem gd_Draft_tell_0 : decode prog_3_method_5_code 0 = .ok (.aload_n 0, 1) := by decide +kernel
theorem gd_Draft_tell_1 : decode prog_3_method_5_code 1 = .ok (.getfield 24, 3) := by decide +kernel
theorem gd_Draft_tell_4 : decode prog_3_method_5_code 4 = .ok (.bipush 8, 2) := by decide +kernel
theorem gd_Draft_tell_6 : decode prog_3_method_5_code 6 = .ok (.if_icmp .ge 23, 3) := by decide +kernel
theorem gd_Draft_tell_9 : decode prog_3_method_5_code 9 = .ok (.aload_n 0, 1) := by decide +kernel
theorem gd_Draft_tell_10 : decode prog_3_method_5_code 10 = .ok (.getfield 9, 3) := by decide +kernel
theorem gd_Draft_tell_13 : decode prog_3_method_5_code 13 = .ok (.aload_n 0, 1) := by decide +kernel
theorem gd_Draft_tell_14 : decode prog_3_method_5_code 14 = .ok (.getfield 24, 3) := by decide +kernel
theorem gd_Draft_tell_17 : decode prog_3_method_5_code 17 = .ok (.iload_n 1, 1) := by decide +kernel
theorem gd_Draft_tell_18 : decode prog_3_method_5_code 18 = .ok (.iastore, 1) := by decide +kernel
theorem gd_Draft_tell_19 : decode prog_3_method_5_code 19 = .ok (.aload_n 0, 1) := by decide +kernel
theorem gd_Draft_tell_20 : decode prog_3_method_5_code 20 = .ok (.dup, 1) := by decide +kernel
theorem gd_Draft_tell_21 : decode prog_3_method_5_code 21 = .ok (.getfield 24, 3) := by decide +kernel
theorem gd_Draft_tell_24 : decode prog_3_method_5_code 24 = .ok (.iconst 1, 1) := by decide +kernel
theorem gd_Draft_tell_25 : decode prog_3_method_5_code 25 = .ok (.iadd, 1) := by decide +kernel
theorem gd_Draft_tell_26 : decode prog_3_method_5_code 26 = .ok (.putfield 24, 3) := by decide +kernel
theorem gd_Draft_tell_29 : decode prog_3_method_5_code 29 = .ok (.return_, 1) := by decide +kernel
theorem gd_Reader_push_0 : decode prog_9_method_10_code 0 = .ok (.aload_n 0, 1) := by decide +kernel
theorem gd_Reader_push_1 : decode prog_9_method_10_code 1 = .ok (.getfield 22, 3) := by decide +kernel
theorem gd_Reader_push_4 : decode prog_9_method_10_code 4 = .ok (.aload_n 0, 1) := by decide +kernel
theorem gd_Reader_push_5 : decode prog_9_method_10_code 5 = .ok (.getfield 81, 3) := by decide +kernel
theorem gd_Reader_push_8 : decode prog_9_method_10_code 8 = .ok (.iaload, 1) := by decide +kernel
theorem gd_Reader_push_9 : decode prog_9_method_10_code 9 = .ok (.iconst 4, 1) := by decide +kernel
theorem gd_Reader_push_10 : decode prog_9_method_10_code 10 = .ok (.if_icmp .ge 38, 3) := by decide +kernel
theorem gd_Reader_push_13 : decode prog_9_method_10_code 13 = .ok (.aload_n 0, 1) := by decide +kernel
theorem gd_Reader_push_14 : decode prog_9_method_10_code 14 = .ok (.getfield 26, 3) := by decide +kernel
theorem gd_Reader_push_17 : decode prog_9_method_10_code 17 = .ok (.aload_n 0, 1) := by decide +kernel
theorem gd_Reader_push_18 : decode prog_9_method_10_code 18 = .ok (.getfield 81, 3) := by decide +kernel
theorem gd_Reader_push_21 : decode prog_9_method_10_code 21 = .ok (.iconst 4, 1) := by decide +kernel
theorem gd_Reader_push_22 : decode prog_9_method_10_code 22 = .ok (.imul, 1) := by decide +kernel
theorem gd_Reader_push_23 : decode prog_9_method_10_code 23 = .ok (.aload_n 0, 1) := by decide +kernel
theorem gd_Reader_push_24 : decode prog_9_method_10_code 24 = .ok (.getfield 22, 3) := by decide +kernel
theorem gd_Reader_push_27 : decode prog_9_method_10_code 27 = .ok (.aload_n 0, 1) := by decide +kernel
theorem gd_Reader_push_28 : decode prog_9_method_10_code 28 = .ok (.getfield 81, 3) := by decide +kernel
theorem gd_Reader_push_31 : decode prog_9_method_10_code 31 = .ok (.iaload, 1) := by decide +kernel
theorem gd_Reader_push_32 : decode prog_9_method_10_code 32 = .ok (.iadd, 1) := by decide +kernel
theorem gd_Reader_push_33 : decode prog_9_method_10_code 33 = .ok (.iload_n 1, 1) := by decide +kernel
theorem gd_Reader_push_34 : decode prog_9_method_10_code 34 = .ok (.iastore, 1) := by decide +kernel
theorem gd_Reader_push_35 : decode prog_9_method_10_code 35 = .ok (.aload_n 0, 1) := by decide +kernel
theorem gd_Reader_push_36 : decode prog_9_method_10_code 36 = .ok (.getfield 22, 3) := by decide +kernel
theorem gd_Reader_push_39 : decode prog_9_method_10_code 39 = .ok (.aload_n 0, 1) := by decide +kernel
theorem gd_Reader_push_40 : decode prog_9_method_10_code 40 = .ok (.getfield 81, 3) := by decide +kernel
theorem gd_Reader_push_43 : decode prog_9_method_10_code 43 = .ok (.dup2, 1) := by decide +kernel
theorem gd_Reader_push_44 : decode prog_9_method_10_code 44 = .ok (.iaload, 1) := by decide +kernel
theorem gd_Reader_push_45 : decode prog_9_method_10_code 45 = .ok (.iconst 1, 1) := by decide +kernel
theorem gd_Reader_push_46 : decode prog_9_method_10_code 46 = .ok (.iadd, 1) := by decide +kernel
theorem gd_Reader_push_47 : decode prog_9_method_10_code 47 = .ok (.iastore, 1) := by decide +kernel
theorem gd_Reader_push_48 : decode prog_9_method_10_code 48 = .ok (.return_, 1) := by decide +kernel
theorem gd_Tape_setOfClass_0 : decode prog_10_method_17_code 0 = .ok (.iconst 0, 1) := by decide +kernel
theorem gd_Tape_setOfClass_1 : decode prog_10_method_17_code 1 = .ok (.istore_n 1, 1) := by decide +kernel
theorem gd_Tape_setOfClass_2 : decode prog_10_method_17_code 2 = .ok (.aload_n 0, 1) := by decide +kernel
theorem gd_Tape_setOfClass_3 : decode prog_10_method_17_code 3 = .ok (.aload_n 0, 1) := by decide +kernel
theorem gd_Tape_setOfClass_4 : decode prog_10_method_17_code 4 = .ok (.getfield 22, 3) := by decide +kernel
theorem gd_Tape_setOfClass_7 : decode prog_10_method_17_code 7 = .ok (.iconst 1, 1) := by decide +kernel
theorem gd_Tape_setOfClass_8 : decode prog_10_method_17_code 8 = .ok (.iadd, 1) := by decide +kernel
theorem gd_Tape_setOfClass_9 : decode prog_10_method_17_code 9 = .ok (.invokevirtual 25, 3) := by decide +kernel
theorem gd_Tape_setOfClass_12 : decode prog_10_method_17_code 12 = .ok (.istore_n 2, 1) := by decide +kernel
theorem gd_Tape_setOfClass_13 : decode prog_10_method_17_code 13 = .ok (.iload_n 2, 1) := by decide +kernel
theorem gd_Tape_setOfClass_14 : decode prog_10_method_17_code 14 = .ok (.aload_n 0, 1) := by decide +kernel
theorem gd_Tape_setOfClass_15 : decode prog_10_method_17_code 15 = .ok (.aload_n 0, 1) := by decide +kernel
theorem gd_Tape_setOfClass_16 : decode prog_10_method_17_code 16 = .ok (.getfield 22, 3) := by decide +kernel
theorem gd_Tape_setOfClass_19 : decode prog_10_method_17_code 19 = .ok (.iconst 3, 1) := by decide +kernel
theorem gd_Tape_setOfClass_20 : decode prog_10_method_17_code 20 = .ok (.iadd, 1) := by decide +kernel
theorem gd_Tape_setOfClass_21 : decode prog_10_method_17_code 21 = .ok (.invokevirtual 25, 3) := by decide +kernel
theorem gd_Tape_setOfClass_24 : decode prog_10_method_17_code 24 = .ok (.if_icmp .gt 18, 3) := by decide +kernel
theorem gd_Tape_setOfClass_27 : decode prog_10_method_17_code 27 = .ok (.iload_n 1, 1) := by decide +kernel
theorem gd_Tape_setOfClass_28 : decode prog_10_method_17_code 28 = .ok (.iconst 1, 1) := by decide +kernel
theorem gd_Tape_setOfClass_29 : decode prog_10_method_17_code 29 = .ok (.iload_n 2, 1) := by decide +kernel
theorem gd_Tape_setOfClass_30 : decode prog_10_method_17_code 30 = .ok (.bipush 97, 2) := by decide +kernel
theorem gd_Tape_setOfClass_32 : decode prog_10_method_17_code 32 = .ok (.isub, 1) := by decide +kernel
theorem gd_Tape_setOfClass_33 : decode prog_10_method_17_code 33 = .ok (.ishl, 1) := by decide +kernel
theorem gd_Tape_setOfClass_34 : decode prog_10_method_17_code 34 = .ok (.ior, 1) := by decide +kernel
theorem gd_Tape_setOfClass_35 : decode prog_10_method_17_code 35 = .ok (.istore_n 1, 1) := by decide +kernel
theorem gd_Tape_setOfClass_36 : decode prog_10_method_17_code 36 = .ok (.iinc 2 1, 3) := by decide +kernel
theorem gd_Tape_setOfClass_39 : decode prog_10_method_17_code 39 = .ok (.goto (-26), 3) := by decide +kernel
theorem gd_Tape_setOfClass_42 : decode prog_10_method_17_code 42 = .ok (.iload_n 1, 1) := by decide +kernel
theorem gd_Tape_setOfClass_43 : decode prog_10_method_17_code 43 = .ok (.ireturn, 1) := by decide +kernel
theorem gd_Tape_setOfQuote_0 : decode prog_10_method_16_code 0 = .ok (.iconst 1, 1) := by decide +kernel
theorem gd_Tape_setOfQuote_1 : decode prog_10_method_16_code 1 = .ok (.aload_n 0, 1) := by decide +kernel
theorem gd_Tape_setOfQuote_2 : decode prog_10_method_16_code 2 = .ok (.aload_n 0, 1) := by decide +kernel
theorem gd_Tape_setOfQuote_3 : decode prog_10_method_16_code 3 = .ok (.getfield 22, 3) := by decide +kernel
theorem gd_Tape_setOfQuote_6 : decode prog_10_method_16_code 6 = .ok (.iconst 1, 1) := by decide +kernel
theorem gd_Tape_setOfQuote_7 : decode prog_10_method_16_code 7 = .ok (.iadd, 1) := by decide +kernel
theorem gd_Tape_setOfQuote_8 : decode prog_10_method_16_code 8 = .ok (.iload_n 1, 1) := by decide +kernel
theorem gd_Tape_setOfQuote_9 : decode prog_10_method_16_code 9 = .ok (.iadd, 1) := by decide +kernel
theorem gd_Tape_setOfQuote_10 : decode prog_10_method_16_code 10 = .ok (.invokevirtual 25, 3) := by decide +kernel
theorem gd_Tape_setOfQuote_13 : decode prog_10_method_16_code 13 = .ok (.bipush 97, 2) := by decide +kernel
theorem gd_Tape_setOfQuote_15 : decode prog_10_method_16_code 15 = .ok (.isub, 1) := by decide +kernel
theorem gd_Tape_setOfQuote_16 : decode prog_10_method_16_code 16 = .ok (.ishl, 1) := by decide +kernel
theorem gd_Tape_setOfQuote_17 : decode prog_10_method_16_code 17 = .ok (.ireturn, 1) := by decide +kernel
theorem gd_Reader_startRow_0 : decode prog_9_method_9_code 0 = .ok (.aload_n 0, 1) := by decide +kernel
theorem gd_Reader_startRow_1 : decode prog_9_method_9_code 1 = .ok (.getfield 22, 3) := by decide +kernel
theorem gd_Reader_startRow_4 : decode prog_9_method_9_code 4 = .ok (.aload_n 0, 1) := by decide +kernel
theorem gd_Reader_startRow_5 : decode prog_9_method_9_code 5 = .ok (.getfield 81, 3) := by decide +kernel
theorem gd_Reader_startRow_8 : decode prog_9_method_9_code 8 = .ok (.iconst 0, 1) := by decide +kernel
theorem gd_Reader_startRow_9 : decode prog_9_method_9_code 9 = .ok (.iastore, 1) := by decide +kernel
theorem gd_Reader_startRow_10 : decode prog_9_method_9_code 10 = .ok (.aload_n 0, 1) := by decide +kernel
theorem gd_Reader_startRow_11 : decode prog_9_method_9_code 11 = .ok (.iconst 0, 1) := by decide +kernel
theorem gd_Reader_startRow_12 : decode prog_9_method_9_code 12 = .ok (.putfield 84, 3) := by decide +kernel
theorem gd_Reader_startRow_15 : decode prog_9_method_9_code 15 = .ok (.return_, 1) := by decide +kernel
theorem gd_Reader_endRow_0 : decode prog_9_method_11_code 0 = .ok (.aload_n 0, 1) := by decide +kernel
theorem gd_Reader_endRow_1 : decode prog_9_method_11_code 1 = .ok (.getfield 12, 3) := by decide +kernel
theorem gd_Reader_endRow_4 : decode prog_9_method_11_code 4 = .ok (.aload_n 0, 1) := by decide +kernel
theorem gd_Reader_endRow_5 : decode prog_9_method_11_code 5 = .ok (.getfield 81, 3) := by decide +kernel
theorem gd_Reader_endRow_8 : decode prog_9_method_11_code 8 = .ok (.aload_n 0, 1) := by decide +kernel
theorem gd_Reader_endRow_9 : decode prog_9_method_11_code 9 = .ok (.getfield 26, 3) := by decide +kernel
theorem gd_Reader_endRow_12 : decode prog_9_method_11_code 12 = .ok (.aload_n 0, 1) := by decide +kernel
theorem gd_Reader_endRow_13 : decode prog_9_method_11_code 13 = .ok (.getfield 81, 3) := by decide +kernel
theorem gd_Reader_endRow_16 : decode prog_9_method_11_code 16 = .ok (.iconst 4, 1) := by decide +kernel
theorem gd_Reader_endRow_17 : decode prog_9_method_11_code 17 = .ok (.imul, 1) := by decide +kernel
theorem gd_Reader_endRow_18 : decode prog_9_method_11_code 18 = .ok (.aload_n 0, 1) := by decide +kernel
theorem gd_Reader_endRow_19 : decode prog_9_method_11_code 19 = .ok (.getfield 22, 3) := by decide +kernel
theorem gd_Reader_endRow_22 : decode prog_9_method_11_code 22 = .ok (.aload_n 0, 1) := by decide +kernel
theorem gd_Reader_endRow_23 : decode prog_9_method_11_code 23 = .ok (.getfield 81, 3) := by decide +kernel
theorem gd_Reader_endRow_26 : decode prog_9_method_11_code 26 = .ok (.iaload, 1) := by decide +kernel
theorem gd_Reader_endRow_27 : decode prog_9_method_11_code 27 = .ok (.invokevirtual 133, 3) := by decide +kernel
theorem gd_Reader_endRow_30 : decode prog_9_method_11_code 30 = .ok (.aload_n 0, 1) := by decide +kernel
theorem gd_Reader_endRow_31 : decode prog_9_method_11_code 31 = .ok (.invokevirtual 99, 3) := by decide +kernel
theorem gd_Reader_endRow_34 : decode prog_9_method_11_code 34 = .ok (.return_, 1) := by decide +kernel
theorem gd_Draft_addRow_0 : decode prog_3_method_7_code 0 = .ok (.aload_n 0, 1) := by decide +kernel
theorem gd_Draft_addRow_1 : decode prog_3_method_7_code 1 = .ok (.iload_n 1, 1) := by decide +kernel
theorem gd_Draft_addRow_2 : decode prog_3_method_7_code 2 = .ok (.ifCond .ne 12, 3) := by decide +kernel
theorem gd_Draft_addRow_5 : decode prog_3_method_7_code 5 = .ok (.aload_n 0, 1) := by decide +kernel
theorem gd_Draft_addRow_6 : decode prog_3_method_7_code 6 = .ok (.getfield 24, 3) := by decide +kernel
theorem gd_Draft_addRow_9 : decode prog_3_method_7_code 9 = .ok (.iconst 1, 1) := by decide +kernel
theorem gd_Draft_addRow_10 : decode prog_3_method_7_code 10 = .ok (.isub, 1) := by decide +kernel
theorem gd_Draft_addRow_11 : decode prog_3_method_7_code 11 = .ok (.goto 7, 3) := by decide +kernel
theorem gd_Draft_addRow_14 : decode prog_3_method_7_code 14 = .ok (.bipush 16, 2) := by decide +kernel
theorem gd_Draft_addRow_16 : decode prog_3_method_7_code 16 = .ok (.iload_n 1, 1) := by decide +kernel
theorem gd_Draft_addRow_17 : decode prog_3_method_7_code 17 = .ok (.iadd, 1) := by decide +kernel
theorem gd_Draft_addRow_18 : decode prog_3_method_7_code 18 = .ok (.iconst 0, 1) := by decide +kernel
theorem gd_Draft_addRow_19 : decode prog_3_method_7_code 19 = .ok (.aload_n 2, 1) := by decide +kernel
theorem gd_Draft_addRow_20 : decode prog_3_method_7_code 20 = .ok (.iload_n 3, 1) := by decide +kernel
theorem gd_Draft_addRow_21 : decode prog_3_method_7_code 21 = .ok (.iload 4, 2) := by decide +kernel
theorem gd_Draft_addRow_23 : decode prog_3_method_7_code 23 = .ok (.invokevirtual 34, 3) := by decide +kernel
theorem gd_Draft_addRow_26 : decode prog_3_method_7_code 26 = .ok (.return_, 1) := by decide +kernel
theorem gd_Draft_add_0 : decode prog_3_method_9_code 0 = .ok (.iload_n 2, 1) := by decide +kernel
theorem gd_Draft_add_1 : decode prog_3_method_9_code 1 = .ok (.ifCond .ne 7, 3) := by decide +kernel
theorem gd_Draft_add_4 : decode prog_3_method_9_code 4 = .ok (.iconst 0, 1) := by decide +kernel
theorem gd_Draft_add_5 : decode prog_3_method_9_code 5 = .ok (.goto 4, 3) := by decide +kernel
theorem gd_Draft_add_8 : decode prog_3_method_9_code 8 = .ok (.iconst 1, 1) := by decide +kernel
theorem gd_Draft_add_9 : decode prog_3_method_9_code 9 = .ok (.istore 6, 2) := by decide +kernel
theorem gd_Draft_add_11 : decode prog_3_method_9_code 11 = .ok (.aload_n 0, 1) := by decide +kernel
theorem gd_Draft_add_12 : decode prog_3_method_9_code 12 = .ok (.getfield 31, 3) := by decide +kernel
theorem gd_Draft_add_15 : decode prog_3_method_9_code 15 = .ok (.bipush 20, 2) := by decide +kernel
theorem gd_Draft_add_17 : decode prog_3_method_9_code 17 = .ok (.if_icmp .ge 27, 3) := by decide +kernel
theorem gd_Draft_add_20 : decode prog_3_method_9_code 20 = .ok (.iload 6, 2) := by decide +kernel
theorem gd_Draft_add_22 : decode prog_3_method_9_code 22 = .ok (.iload 5, 2) := by decide +kernel
theorem gd_Draft_add_24 : decode prog_3_method_9_code 24 = .ok (.iadd, 1) := by decide +kernel
theorem gd_Draft_add_25 : decode prog_3_method_9_code 25 = .ok (.iconst 4, 1) := by decide +kernel
theorem gd_Draft_add_26 : decode prog_3_method_9_code 26 = .ok (.if_icmp .gt 18, 3) := by decide +kernel
theorem gd_Draft_add_29 : decode prog_3_method_9_code 29 = .ok (.iload 4, 2) := by decide +kernel
theorem gd_Draft_add_31 : decode prog_3_method_9_code 31 = .ok (.ifCond .lt 13, 3) := by decide +kernel
theorem gd_Draft_add_34 : decode prog_3_method_9_code 34 = .ok (.iload 4, 2) := by decide +kernel
theorem gd_Draft_add_36 : decode prog_3_method_9_code 36 = .ok (.iload 5, 2) := by decide +kernel
theorem gd_Draft_add_38 : decode prog_3_method_9_code 38 = .ok (.iadd, 1) := by decide +kernel
theorem gd_Draft_add_39 : decode prog_3_method_9_code 39 = .ok (.aload_n 3, 1) := by decide +kernel
theorem gd_Draft_add_40 : decode prog_3_method_9_code 40 = .ok (.arraylength, 1) := by decide +kernel
theorem gd_Draft_add_41 : decode prog_3_method_9_code 41 = .ok (.if_icmp .le 4, 3) := by decide +kernel
theorem gd_Draft_add_44 : decode prog_3_method_9_code 44 = .ok (.return_, 1) := by decide +kernel
theorem gd_Draft_add_45 : decode prog_3_method_9_code 45 = .ok (.aload_n 0, 1) := by decide +kernel
theorem gd_Draft_add_46 : decode prog_3_method_9_code 46 = .ok (.getfield 31, 3) := by decide +kernel
theorem gd_Draft_add_49 : decode prog_3_method_9_code 49 = .ok (.iconst 4, 1) := by decide +kernel
theorem gd_Draft_add_50 : decode prog_3_method_9_code 50 = .ok (.imul, 1) := by decide +kernel
theorem gd_Draft_add_51 : decode prog_3_method_9_code 51 = .ok (.istore 7, 2) := by decide +kernel
theorem gd_Draft_add_53 : decode prog_3_method_9_code 53 = .ok (.iload 6, 2) := by decide +kernel
theorem gd_Draft_add_55 : decode prog_3_method_9_code 55 = .ok (.iconst 1, 1) := by decide +kernel
theorem gd_Draft_add_56 : decode prog_3_method_9_code 56 = .ok (.if_icmp .ne 11, 3) := by decide +kernel
theorem gd_Draft_add_59 : decode prog_3_method_9_code 59 = .ok (.aload_n 0, 1) := by decide +kernel
theorem gd_Draft_add_60 : decode prog_3_method_9_code 60 = .ok (.getfield 21, 3) := by decide +kernel
theorem gd_Draft_add_63 : decode prog_3_method_9_code 63 = .ok (.iload 7, 2) := by decide +kernel
theorem gd_Draft_add_65 : decode prog_3_method_9_code 65 = .ok (.iload_n 2, 1) := by decide +kernel
theorem gd_Draft_add_66 : decode prog_3_method_9_code 66 = .ok (.iastore, 1) := by decide +kernel
theorem gd_Draft_add_67 : decode prog_3_method_9_code 67 = .ok (.iconst 0, 1) := by decide +kernel
theorem gd_Draft_add_68 : decode prog_3_method_9_code 68 = .ok (.istore 8, 2) := by decide +kernel
theorem gd_Draft_add_70 : decode prog_3_method_9_code 70 = .ok (.iload 8, 2) := by decide +kernel
theorem gd_Draft_add_72 : decode prog_3_method_9_code 72 = .ok (.iload 5, 2) := by decide +kernel
theorem gd_Draft_add_74 : decode prog_3_method_9_code 74 = .ok (.if_icmp .ge 29, 3) := by decide +kernel
theorem gd_Draft_add_77 : decode prog_3_method_9_code 77 = .ok (.aload_n 0, 1) := by decide +kernel
theorem gd_Draft_add_78 : decode prog_3_method_9_code 78 = .ok (.getfield 21, 3) := by decide +kernel
theorem gd_Draft_add_81 : decode prog_3_method_9_code 81 = .ok (.iload 7, 2) := by decide +kernel
theorem gd_Draft_add_83 : decode prog_3_method_9_code 83 = .ok (.iload 6, 2) := by decide +kernel
theorem gd_Draft_add_85 : decode prog_3_method_9_code 85 = .ok (.iadd, 1) := by decide +kernel
theorem gd_Draft_add_86 : decode prog_3_method_9_code 86 = .ok (.iload 8, 2) := by decide +kernel
theorem gd_Draft_add_88 : decode prog_3_method_9_code 88 = .ok (.iadd, 1) := by decide +kernel
theorem gd_Draft_add_89 : decode prog_3_method_9_code 89 = .ok (.aload_n 3, 1) := by decide +kernel
theorem gd_Draft_add_90 : decode prog_3_method_9_code 90 = .ok (.iload 4, 2) := by decide +kernel
theorem gd_Draft_add_92 : decode prog_3_method_9_code 92 = .ok (.iload 8, 2) := by decide +kernel
theorem gd_Draft_add_94 : decode prog_3_method_9_code 94 = .ok (.iadd, 1) := by decide +kernel
theorem gd_Draft_add_95 : decode prog_3_method_9_code 95 = .ok (.iaload, 1) := by decide +kernel
theorem gd_Draft_add_96 : decode prog_3_method_9_code 96 = .ok (.iastore, 1) := by decide +kernel
theorem gd_Draft_add_97 : decode prog_3_method_9_code 97 = .ok (.iinc 8 1, 3) := by decide +kernel
theorem gd_Draft_add_100 : decode prog_3_method_9_code 100 = .ok (.goto (-30), 3) := by decide +kernel
theorem gd_Draft_add_103 : decode prog_3_method_9_code 103 = .ok (.aload_n 0, 1) := by decide +kernel
theorem gd_Draft_add_104 : decode prog_3_method_9_code 104 = .ok (.getfield 15, 3) := by decide +kernel
theorem gd_Draft_add_107 : decode prog_3_method_9_code 107 = .ok (.aload_n 0, 1) := by decide +kernel
theorem gd_Draft_add_108 : decode prog_3_method_9_code 108 = .ok (.getfield 31, 3) := by decide +kernel
theorem gd_Draft_add_111 : decode prog_3_method_9_code 111 = .ok (.iload_n 1, 1) := by decide +kernel
theorem gd_Draft_add_112 : decode prog_3_method_9_code 112 = .ok (.iastore, 1) := by decide +kernel
theorem gd_Draft_add_113 : decode prog_3_method_9_code 113 = .ok (.aload_n 0, 1) := by decide +kernel
theorem gd_Draft_add_114 : decode prog_3_method_9_code 114 = .ok (.getfield 18, 3) := by decide +kernel
theorem gd_Draft_add_117 : decode prog_3_method_9_code 117 = .ok (.aload_n 0, 1) := by decide +kernel
theorem gd_Draft_add_118 : decode prog_3_method_9_code 118 = .ok (.getfield 31, 3) := by decide +kernel
theorem gd_Draft_add_121 : decode prog_3_method_9_code 121 = .ok (.iload 6, 2) := by decide +kernel
theorem gd_Draft_add_123 : decode prog_3_method_9_code 123 = .ok (.iload 5, 2) := by decide +kernel
theorem gd_Draft_add_125 : decode prog_3_method_9_code 125 = .ok (.iadd, 1) := by decide +kernel
theorem gd_Draft_add_126 : decode prog_3_method_9_code 126 = .ok (.iastore, 1) := by decide +kernel
theorem gd_Draft_add_127 : decode prog_3_method_9_code 127 = .ok (.aload_n 0, 1) := by decide +kernel
theorem gd_Draft_add_128 : decode prog_3_method_9_code 128 = .ok (.dup, 1) := by decide +kernel
theorem gd_Draft_add_129 : decode prog_3_method_9_code 129 = .ok (.getfield 31, 3) := by decide +kernel
theorem gd_Draft_add_132 : decode prog_3_method_9_code 132 = .ok (.iconst 1, 1) := by decide +kernel
theorem gd_Draft_add_133 : decode prog_3_method_9_code 133 = .ok (.iadd, 1) := by decide +kernel
theorem gd_Draft_add_134 : decode prog_3_method_9_code 134 = .ok (.putfield 31, 3) := by decide +kernel
theorem gd_Draft_add_137 : decode prog_3_method_9_code 137 = .ok (.return_, 1) := by decide +kernel
theorem gd_Draft_close_0 : decode prog_3_method_10_code 0 = .ok (.aload_n 0, 1) := by decide +kernel
theorem gd_Draft_close_1 : decode prog_3_method_10_code 1 = .ok (.invokevirtual 38, 3) := by decide +kernel
theorem gd_Draft_close_4 : decode prog_3_method_10_code 4 = .ok (.istore_n 2, 1) := by decide +kernel
theorem gd_Draft_close_5 : decode prog_3_method_10_code 5 = .ok (.iconst 0, 1) := by decide +kernel
theorem gd_Draft_close_6 : decode prog_3_method_10_code 6 = .ok (.istore_n 3, 1) := by decide +kernel
theorem gd_Draft_close_7 : decode prog_3_method_10_code 7 = .ok (.iload_n 3, 1) := by decide +kernel
theorem gd_Draft_close_8 : decode prog_3_method_10_code 8 = .ok (.aload_n 0, 1) := by decide +kernel
theorem gd_Draft_close_9 : decode prog_3_method_10_code 9 = .ok (.getfield 31, 3) := by decide +kernel
theorem gd_Draft_close_12 : decode prog_3_method_10_code 12 = .ok (.if_icmp .ge 38, 3) := by decide +kernel
theorem gd_Draft_close_15 : decode prog_3_method_10_code 15 = .ok (.iload_n 3, 1) := by decide +kernel
theorem gd_Draft_close_16 : decode prog_3_method_10_code 16 = .ok (.bipush 20, 2) := by decide +kernel
theorem gd_Draft_close_18 : decode prog_3_method_10_code 18 = .ok (.if_icmp .ge 32, 3) := by decide +kernel
theorem gd_Draft_close_21 : decode prog_3_method_10_code 21 = .ok (.aload_n 0, 1) := by decide +kernel
theorem gd_Draft_close_22 : decode prog_3_method_10_code 22 = .ok (.getfield 15, 3) := by decide +kernel
theorem gd_Draft_close_25 : decode prog_3_method_10_code 25 = .ok (.iload_n 3, 1) := by decide +kernel
theorem gd_Draft_close_26 : decode prog_3_method_10_code 26 = .ok (.iaload, 1) := by decide +kernel
theorem gd_Draft_close_27 : decode prog_3_method_10_code 27 = .ok (.bipush 16, 2) := by decide +kernel
theorem gd_Draft_close_29 : decode prog_3_method_10_code 29 = .ok (.iload_n 1, 1) := by decide +kernel
theorem gd_Draft_close_30 : decode prog_3_method_10_code 30 = .ok (.iadd, 1) := by decide +kernel
theorem gd_Draft_close_31 : decode prog_3_method_10_code 31 = .ok (.if_icmp .ne 13, 3) := by decide +kernel
theorem gd_Draft_close_34 : decode prog_3_method_10_code 34 = .ok (.aload_n 0, 1) := by decide +kernel
theorem gd_Draft_close_35 : decode prog_3_method_10_code 35 = .ok (.getfield 15, 3) := by decide +kernel
theorem gd_Draft_close_38 : decode prog_3_method_10_code 38 = .ok (.iload_n 3, 1) := by decide +kernel
theorem gd_Draft_close_39 : decode prog_3_method_10_code 39 = .ok (.bipush 8, 2) := by decide +kernel
theorem gd_Draft_close_41 : decode prog_3_method_10_code 41 = .ok (.iload_n 2, 1) := by decide +kernel
theorem gd_Draft_close_42 : decode prog_3_method_10_code 42 = .ok (.iadd, 1) := by decide +kernel
theorem gd_Draft_close_43 : decode prog_3_method_10_code 43 = .ok (.iastore, 1) := by decide +kernel
theorem gd_Draft_close_44 : decode prog_3_method_10_code 44 = .ok (.iinc 3 1, 3) := by decide +kernel
theorem gd_Draft_close_47 : decode prog_3_method_10_code 47 = .ok (.goto (-40), 3) := by decide +kernel
theorem gd_Draft_close_50 : decode prog_3_method_10_code 50 = .ok (.iload_n 2, 1) := by decide +kernel
theorem gd_Draft_close_51 : decode prog_3_method_10_code 51 = .ok (.ireturn, 1) := by decide +kernel
theorem gd_Draft_makeName_0 : decode prog_3_method_6_code 0 = .ok (.aload_n 0, 1) := by decide +kernel
theorem gd_Draft_makeName_1 : decode prog_3_method_6_code 1 = .ok (.dup, 1) := by decide +kernel
theorem gd_Draft_makeName_2 : decode prog_3_method_6_code 2 = .ok (.getfield 28, 3) := by decide +kernel
theorem gd_Draft_makeName_5 : decode prog_3_method_6_code 5 = .ok (.iconst 1, 1) := by decide +kernel
theorem gd_Draft_makeName_6 : decode prog_3_method_6_code 6 = .ok (.iadd, 1) := by decide +kernel
theorem gd_Draft_makeName_7 : decode prog_3_method_6_code 7 = .ok (.putfield 28, 3) := by decide +kernel
theorem gd_Draft_makeName_10 : decode prog_3_method_6_code 10 = .ok (.aload_n 0, 1) := by decide +kernel
theorem gd_Draft_makeName_11 : decode prog_3_method_6_code 11 = .ok (.getfield 28, 3) := by decide +kernel
theorem gd_Draft_makeName_14 : decode prog_3_method_6_code 14 = .ok (.iconst 1, 1) := by decide +kernel
theorem gd_Draft_makeName_15 : decode prog_3_method_6_code 15 = .ok (.isub, 1) := by decide +kernel
theorem gd_Draft_makeName_16 : decode prog_3_method_6_code 16 = .ok (.ireturn, 1) := by decide +kernel
theorem gd_Reader_repeat_0 : decode prog_9_method_12_code 0 = .ok (.aload_n 0, 1) := by decide +kernel
theorem gd_Reader_repeat_1 : decode prog_9_method_12_code 1 = .ok (.getfield 12, 3) := by decide +kernel
theorem gd_Reader_repeat_4 : decode prog_9_method_12_code 4 = .ok (.invokevirtual 137, 3) := by decide +kernel
theorem gd_Reader_repeat_7 : decode prog_9_method_12_code 7 = .ok (.istore_n 2, 1) := by decide +kernel
theorem gd_Reader_repeat_8 : decode prog_9_method_12_code 8 = .ok (.aload_n 0, 1) := by decide +kernel
theorem gd_Reader_repeat_9 : decode prog_9_method_12_code 9 = .ok (.getfield 81, 3) := by decide +kernel
theorem gd_Reader_repeat_12 : decode prog_9_method_12_code 12 = .ok (.iconst 4, 1) := by decide +kernel
theorem gd_Reader_repeat_13 : decode prog_9_method_12_code 13 = .ok (.imul, 1) := by decide +kernel
theorem gd_Reader_repeat_14 : decode prog_9_method_12_code 14 = .ok (.aload_n 0, 1) := by decide +kernel
theorem gd_Reader_repeat_15 : decode prog_9_method_12_code 15 = .ok (.getfield 22, 3) := by decide +kernel
theorem gd_Reader_repeat_18 : decode prog_9_method_12_code 18 = .ok (.aload_n 0, 1) := by decide +kernel
theorem gd_Reader_repeat_19 : decode prog_9_method_12_code 19 = .ok (.getfield 81, 3) := by decide +kernel
theorem gd_Reader_repeat_22 : decode prog_9_method_12_code 22 = .ok (.iaload, 1) := by decide +kernel
theorem gd_Reader_repeat_23 : decode prog_9_method_12_code 23 = .ok (.iadd, 1) := by decide +kernel
theorem gd_Reader_repeat_24 : decode prog_9_method_12_code 24 = .ok (.aload_n 0, 1) := by decide +kernel
theorem gd_Reader_repeat_25 : decode prog_9_method_12_code 25 = .ok (.getfield 84, 3) := by decide +kernel
theorem gd_Reader_repeat_28 : decode prog_9_method_12_code 28 = .ok (.isub, 1) := by decide +kernel
theorem gd_Reader_repeat_29 : decode prog_9_method_12_code 29 = .ok (.istore_n 3, 1) := by decide +kernel
theorem gd_Reader_repeat_30 : decode prog_9_method_12_code 30 = .ok (.aload_n 0, 1) := by decide +kernel
theorem gd_Reader_repeat_31 : decode prog_9_method_12_code 31 = .ok (.getfield 12, 3) := by decide +kernel
theorem gd_Reader_repeat_34 : decode prog_9_method_12_code 34 = .ok (.iload_n 2, 1) := by decide +kernel
theorem gd_Reader_repeat_35 : decode prog_9_method_12_code 35 = .ok (.iconst 0, 1) := by decide +kernel
theorem gd_Reader_repeat_36 : decode prog_9_method_12_code 36 = .ok (.aload_n 0, 1) := by decide +kernel
theorem gd_Reader_repeat_37 : decode prog_9_method_12_code 37 = .ok (.getfield 26, 3) := by decide +kernel
theorem gd_Reader_repeat_40 : decode prog_9_method_12_code 40 = .ok (.iload_n 3, 1) := by decide +kernel
theorem gd_Reader_repeat_41 : decode prog_9_method_12_code 41 = .ok (.iload_n 1, 1) := by decide +kernel
theorem gd_Reader_repeat_42 : decode prog_9_method_12_code 42 = .ok (.bipush 42, 2) := by decide +kernel
theorem gd_Reader_repeat_44 : decode prog_9_method_12_code 44 = .ok (.if_icmp .ne 7, 3) := by decide +kernel
theorem gd_Reader_repeat_47 : decode prog_9_method_12_code 47 = .ok (.iconst 0, 1) := by decide +kernel
theorem gd_Reader_repeat_48 : decode prog_9_method_12_code 48 = .ok (.goto 7, 3) := by decide +kernel
theorem gd_Reader_repeat_51 : decode prog_9_method_12_code 51 = .ok (.aload_n 0, 1) := by decide +kernel
theorem gd_Reader_repeat_52 : decode prog_9_method_12_code 52 = .ok (.getfield 84, 3) := by decide +kernel
theorem gd_Reader_repeat_55 : decode prog_9_method_12_code 55 = .ok (.invokevirtual 140, 3) := by decide +kernel
theorem gd_Reader_repeat_58 : decode prog_9_method_12_code 58 = .ok (.aload_n 0, 1) := by decide +kernel
theorem gd_Reader_repeat_59 : decode prog_9_method_12_code 59 = .ok (.getfield 12, 3) := by decide +kernel
theorem gd_Reader_repeat_62 : decode prog_9_method_12_code 62 = .ok (.iload_n 2, 1) := by decide +kernel
theorem gd_Reader_repeat_63 : decode prog_9_method_12_code 63 = .ok (.iload_n 1, 1) := by decide +kernel
theorem gd_Reader_repeat_64 : decode prog_9_method_12_code 64 = .ok (.bipush 63, 2) := by decide +kernel
theorem gd_Reader_repeat_66 : decode prog_9_method_12_code 66 = .ok (.if_icmp .eq 7, 3) := by decide +kernel
theorem gd_Reader_repeat_69 : decode prog_9_method_12_code 69 = .ok (.iconst 1, 1) := by decide +kernel
theorem gd_Reader_repeat_70 : decode prog_9_method_12_code 70 = .ok (.goto 4, 3) := by decide +kernel
theorem gd_Reader_repeat_73 : decode prog_9_method_12_code 73 = .ok (.iconst 0, 1) := by decide +kernel
theorem gd_Reader_repeat_74 : decode prog_9_method_12_code 74 = .ok (.aload_n 0, 1) := by decide +kernel
theorem gd_Reader_repeat_75 : decode prog_9_method_12_code 75 = .ok (.getfield 26, 3) := by decide +kernel
theorem gd_Reader_repeat_78 : decode prog_9_method_12_code 78 = .ok (.iload_n 3, 1) := by decide +kernel
theorem gd_Reader_repeat_79 : decode prog_9_method_12_code 79 = .ok (.iload_n 1, 1) := by decide +kernel
theorem gd_Reader_repeat_80 : decode prog_9_method_12_code 80 = .ok (.bipush 63, 2) := by decide +kernel
theorem gd_Reader_repeat_82 : decode prog_9_method_12_code 82 = .ok (.if_icmp .ne 7, 3) := by decide +kernel
theorem gd_Reader_repeat_85 : decode prog_9_method_12_code 85 = .ok (.iconst 0, 1) := by decide +kernel
theorem gd_Reader_repeat_86 : decode prog_9_method_12_code 86 = .ok (.goto 7, 3) := by decide +kernel
theorem gd_Reader_repeat_89 : decode prog_9_method_12_code 89 = .ok (.aload_n 0, 1) := by decide +kernel
theorem gd_Reader_repeat_90 : decode prog_9_method_12_code 90 = .ok (.getfield 84, 3) := by decide +kernel
theorem gd_Reader_repeat_93 : decode prog_9_method_12_code 93 = .ok (.invokevirtual 140, 3) := by decide +kernel
theorem gd_Reader_repeat_96 : decode prog_9_method_12_code 96 = .ok (.aload_n 0, 1) := by decide +kernel
theorem gd_Reader_repeat_97 : decode prog_9_method_12_code 97 = .ok (.getfield 22, 3) := by decide +kernel
theorem gd_Reader_repeat_100 : decode prog_9_method_12_code 100 = .ok (.aload_n 0, 1) := by decide +kernel
theorem gd_Reader_repeat_101 : decode prog_9_method_12_code 101 = .ok (.getfield 81, 3) := by decide +kernel
theorem gd_Reader_repeat_104 : decode prog_9_method_12_code 104 = .ok (.dup2, 1) := by decide +kernel
theorem gd_Reader_repeat_105 : decode prog_9_method_12_code 105 = .ok (.iaload, 1) := by decide +kernel
theorem gd_Reader_repeat_106 : decode prog_9_method_12_code 106 = .ok (.aload_n 0, 1) := by decide +kernel
theorem gd_Reader_repeat_107 : decode prog_9_method_12_code 107 = .ok (.getfield 84, 3) := by decide +kernel
theorem gd_Reader_repeat_110 : decode prog_9_method_12_code 110 = .ok (.isub, 1) := by decide +kernel
theorem gd_Reader_repeat_111 : decode prog_9_method_12_code 111 = .ok (.iastore, 1) := by decide +kernel
theorem gd_Reader_repeat_112 : decode prog_9_method_12_code 112 = .ok (.aload_n 0, 1) := by decide +kernel
theorem gd_Reader_repeat_113 : decode prog_9_method_12_code 113 = .ok (.iconst (-1), 1) := by decide +kernel
theorem gd_Reader_repeat_114 : decode prog_9_method_12_code 114 = .ok (.iload_n 2, 1) := by decide +kernel
theorem gd_Reader_repeat_115 : decode prog_9_method_12_code 115 = .ok (.isub, 1) := by decide +kernel
theorem gd_Reader_repeat_116 : decode prog_9_method_12_code 116 = .ok (.invokevirtual 117, 3) := by decide +kernel
theorem gd_Reader_repeat_119 : decode prog_9_method_12_code 119 = .ok (.aload_n 0, 1) := by decide +kernel
theorem gd_Reader_repeat_120 : decode prog_9_method_12_code 120 = .ok (.iconst 0, 1) := by decide +kernel
theorem gd_Reader_repeat_121 : decode prog_9_method_12_code 121 = .ok (.putfield 84, 3) := by decide +kernel
theorem gd_Reader_repeat_124 : decode prog_9_method_12_code 124 = .ok (.return_, 1) := by decide +kernel
theorem gd_Draft_addMadeRow_0 : decode prog_3_method_8_code 0 = .ok (.aload_n 0, 1) := by decide +kernel
theorem gd_Draft_addMadeRow_1 : decode prog_3_method_8_code 1 = .ok (.bipush 8, 2) := by decide +kernel
theorem gd_Draft_addMadeRow_3 : decode prog_3_method_8_code 3 = .ok (.iload_n 1, 1) := by decide +kernel
theorem gd_Draft_addMadeRow_4 : decode prog_3_method_8_code 4 = .ok (.iadd, 1) := by decide +kernel
theorem gd_Draft_addMadeRow_5 : decode prog_3_method_8_code 5 = .ok (.iload_n 2, 1) := by decide +kernel
theorem gd_Draft_addMadeRow_6 : decode prog_3_method_8_code 6 = .ok (.ifCond .eq 9, 3) := by decide +kernel
theorem gd_Draft_addMadeRow_9 : decode prog_3_method_8_code 9 = .ok (.iconst (-1), 1) := by decide +kernel
theorem gd_Draft_addMadeRow_10 : decode prog_3_method_8_code 10 = .ok (.iload_n 1, 1) := by decide +kernel
theorem gd_Draft_addMadeRow_11 : decode prog_3_method_8_code 11 = .ok (.isub, 1) := by decide +kernel
theorem gd_Draft_addMadeRow_12 : decode prog_3_method_8_code 12 = .ok (.goto 4, 3) := by decide +kernel
theorem gd_Draft_addMadeRow_15 : decode prog_3_method_8_code 15 = .ok (.iconst 0, 1) := by decide +kernel
theorem gd_Draft_addMadeRow_16 : decode prog_3_method_8_code 16 = .ok (.aload_n 3, 1) := by decide +kernel
theorem gd_Draft_addMadeRow_17 : decode prog_3_method_8_code 17 = .ok (.iload 4, 2) := by decide +kernel
theorem gd_Draft_addMadeRow_19 : decode prog_3_method_8_code 19 = .ok (.iload 5, 2) := by decide +kernel
theorem gd_Draft_addMadeRow_21 : decode prog_3_method_8_code 21 = .ok (.invokevirtual 34, 3) := by decide +kernel
theorem gd_Draft_addMadeRow_24 : decode prog_3_method_8_code 24 = .ok (.return_, 1) := by decide +kernel
theorem gd_Reader_allNamesHaveRules_0 : decode prog_9_method_3_code 0 = .ok (.bipush 59, 2) := by decide +kernel
theorem gd_Reader_allNamesHaveRules_2 : decode prog_9_method_3_code 2 = .ok (.istore_n 1, 1) := by decide +kernel
theorem gd_Reader_allNamesHaveRules_3 : decode prog_9_method_3_code 3 = .ok (.aload_n 0, 1) := by decide +kernel
theorem gd_Reader_allNamesHaveRules_4 : decode prog_9_method_3_code 4 = .ok (.getfield 29, 3) := by decide +kernel
theorem gd_Reader_allNamesHaveRules_7 : decode prog_9_method_3_code 7 = .ok (.invokevirtual 36, 3) := by decide +kernel
theorem gd_Reader_allNamesHaveRules_10 : decode prog_9_method_3_code 10 = .ok (.iconst 0, 1) := by decide +kernel
theorem gd_Reader_allNamesHaveRules_11 : decode prog_9_method_3_code 11 = .ok (.istore_n 2, 1) := by decide +kernel
theorem gd_Reader_allNamesHaveRules_12 : decode prog_9_method_3_code 12 = .ok (.iload_n 2, 1) := by decide +kernel
theorem gd_Reader_allNamesHaveRules_13 : decode prog_9_method_3_code 13 = .ok (.sipush 240, 3) := by decide +kernel
theorem gd_Reader_allNamesHaveRules_16 : decode prog_9_method_3_code 16 = .ok (.if_icmp .gt 90, 3) := by decide +kernel
theorem gd_Reader_allNamesHaveRules_19 : decode prog_9_method_3_code 19 = .ok (.aload_n 0, 1) := by decide +kernel
theorem gd_Reader_allNamesHaveRules_20 : decode prog_9_method_3_code 20 = .ok (.getfield 29, 3) := by decide +kernel
theorem gd_Reader_allNamesHaveRules_23 : decode prog_9_method_3_code 23 = .ok (.invokevirtual 47, 3) := by decide +kernel
theorem gd_Reader_allNamesHaveRules_26 : decode prog_9_method_3_code 26 = .ok (.aload_n 0, 1) := by decide +kernel
theorem gd_Reader_allNamesHaveRules_27 : decode prog_9_method_3_code 27 = .ok (.getfield 29, 3) := by decide +kernel
theorem gd_Reader_allNamesHaveRules_30 : decode prog_9_method_3_code 30 = .ok (.getfield 55, 3) := by decide +kernel
theorem gd_Reader_allNamesHaveRules_33 : decode prog_9_method_3_code 33 = .ok (.iconst 1, 1) := by decide +kernel
theorem gd_Reader_allNamesHaveRules_34 : decode prog_9_method_3_code 34 = .ok (.if_icmp .ne 45, 3) := by decide +kernel
theorem gd_Reader_allNamesHaveRules_37 : decode prog_9_method_3_code 37 = .ok (.iload_n 1, 1) := by decide +kernel
theorem gd_Reader_allNamesHaveRules_38 : decode prog_9_method_3_code 38 = .ok (.bipush 59, 2) := by decide +kernel
theorem gd_Reader_allNamesHaveRules_40 : decode prog_9_method_3_code 40 = .ok (.if_icmp .eq 39, 3) := by decide +kernel
theorem gd_Reader_allNamesHaveRules_43 : decode prog_9_method_3_code 43 = .ok (.aload_n 0, 1) := by decide +kernel
theorem gd_Reader_allNamesHaveRules_44 : decode prog_9_method_3_code 44 = .ok (.getfield 12, 3) := by decide +kernel
theorem gd_Reader_allNamesHaveRules_47 : decode prog_9_method_3_code 47 = .ok (.aload_n 0, 1) := by decide +kernel
theorem gd_Reader_allNamesHaveRules_48 : decode prog_9_method_3_code 48 = .ok (.getfield 29, 3) := by decide +kernel
theorem gd_Reader_allNamesHaveRules_51 : decode prog_9_method_3_code 51 = .ok (.invokevirtual 65, 3) := by decide +kernel
theorem gd_Reader_allNamesHaveRules_54 : decode prog_9_method_3_code 54 = .ok (.invokevirtual 68, 3) := by decide +kernel
theorem gd_Reader_allNamesHaveRules_57 : decode prog_9_method_3_code 57 = .ok (.iconst (-1), 1) := by decide +kernel
theorem gd_Reader_allNamesHaveRules_58 : decode prog_9_method_3_code 58 = .ok (.if_icmp .ne 21, 3) := by decide +kernel
theorem gd_Reader_allNamesHaveRules_61 : decode prog_9_method_3_code 61 = .ok (.aload_n 0, 1) := by decide +kernel
theorem gd_Reader_allNamesHaveRules_62 : decode prog_9_method_3_code 62 = .ok (.iconst 5, 1) := by decide +kernel
theorem gd_Reader_allNamesHaveRules_63 : decode prog_9_method_3_code 63 = .ok (.putfield 44, 3) := by decide +kernel
theorem gd_Reader_allNamesHaveRules_66 : decode prog_9_method_3_code 66 = .ok (.aload_n 0, 1) := by decide +kernel
theorem gd_Reader_allNamesHaveRules_67 : decode prog_9_method_3_code 67 = .ok (.aload_n 0, 1) := by decide +kernel
theorem gd_Reader_allNamesHaveRules_68 : decode prog_9_method_3_code 68 = .ok (.getfield 29, 3) := by decide +kernel
theorem gd_Reader_allNamesHaveRules_71 : decode prog_9_method_3_code 71 = .ok (.getfield 54, 3) := by decide +kernel
theorem gd_Reader_allNamesHaveRules_74 : decode prog_9_method_3_code 74 = .ok (.putfield 18, 3) := by decide +kernel
theorem gd_Reader_allNamesHaveRules_77 : decode prog_9_method_3_code 77 = .ok (.iconst 0, 1) := by decide +kernel
theorem gd_Reader_allNamesHaveRules_78 : decode prog_9_method_3_code 78 = .ok (.ireturn, 1) := by decide +kernel
theorem gd_Reader_allNamesHaveRules_79 : decode prog_9_method_3_code 79 = .ok (.aload_n 0, 1) := by decide +kernel
theorem gd_Reader_allNamesHaveRules_80 : decode prog_9_method_3_code 80 = .ok (.getfield 29, 3) := by decide +kernel
theorem gd_Reader_allNamesHaveRules_83 : decode prog_9_method_3_code 83 = .ok (.getfield 55, 3) := by decide +kernel
theorem gd_Reader_allNamesHaveRules_86 : decode prog_9_method_3_code 86 = .ok (.iconst 4, 1) := by decide +kernel
theorem gd_Reader_allNamesHaveRules_87 : decode prog_9_method_3_code 87 = .ok (.if_icmp .ne 5, 3) := by decide +kernel
theorem gd_Reader_allNamesHaveRules_90 : decode prog_9_method_3_code 90 = .ok (.iconst 1, 1) := by decide +kernel
theorem gd_Reader_allNamesHaveRules_91 : decode prog_9_method_3_code 91 = .ok (.ireturn, 1) := by decide +kernel
theorem gd_Reader_allNamesHaveRules_92 : decode prog_9_method_3_code 92 = .ok (.aload_n 0, 1) := by decide +kernel
theorem gd_Reader_allNamesHaveRules_93 : decode prog_9_method_3_code 93 = .ok (.getfield 29, 3) := by decide +kernel
theorem gd_Reader_allNamesHaveRules_96 : decode prog_9_method_3_code 96 = .ok (.getfield 55, 3) := by decide +kernel
theorem gd_Reader_allNamesHaveRules_99 : decode prog_9_method_3_code 99 = .ok (.istore_n 1, 1) := by decide +kernel
theorem gd_Reader_allNamesHaveRules_100 : decode prog_9_method_3_code 100 = .ok (.iinc 2 1, 3) := by decide +kernel
theorem gd_Reader_allNamesHaveRules_103 : decode prog_9_method_3_code 103 = .ok (.goto (-91), 3) := by decide +kernel
theorem gd_Reader_allNamesHaveRules_106 : decode prog_9_method_3_code 106 = .ok (.iconst 1, 1) := by decide +kernel
theorem gd_Reader_allNamesHaveRules_107 : decode prog_9_method_3_code 107 = .ok (.ireturn, 1) := by decide +kernel
theorem gd_Draft_fill_0 : decode prog_3_method_11_code 0 = .ok (.aload_n 1, 1) := by decide +kernel
theorem gd_Draft_fill_1 : decode prog_3_method_11_code 1 = .ok (.invokevirtual 42, 3) := by decide +kernel
theorem gd_Draft_fill_4 : decode prog_3_method_11_code 4 = .ok (.aload_n 1, 1) := by decide +kernel
theorem gd_Draft_fill_5 : decode prog_3_method_11_code 5 = .ok (.aload_n 0, 1) := by decide +kernel
theorem gd_Draft_fill_6 : decode prog_3_method_11_code 6 = .ok (.getfield 24, 3) := by decide +kernel
theorem gd_Draft_fill_9 : decode prog_3_method_11_code 9 = .ok (.putfield 47, 3) := by decide +kernel
theorem gd_Draft_fill_12 : decode prog_3_method_11_code 12 = .ok (.aload_n 0, 1) := by decide +kernel
theorem gd_Draft_fill_13 : decode prog_3_method_11_code 13 = .ok (.invokevirtual 48, 3) := by decide +kernel
theorem gd_Draft_fill_16 : decode prog_3_method_11_code 16 = .ok (.bipush 8, 2) := by decide +kernel
theorem gd_Draft_fill_18 : decode prog_3_method_11_code 18 = .ok (.invokestatic 51, 3) := by decide +kernel
theorem gd_Draft_fill_21 : decode prog_3_method_11_code 21 = .ok (.istore_n 2, 1) := by decide +kernel
theorem gd_Draft_fill_22 : decode prog_3_method_11_code 22 = .ok (.iconst 0, 1) := by decide +kernel
theorem gd_Draft_fill_23 : decode prog_3_method_11_code 23 = .ok (.istore_n 3, 1) := by decide +kernel
theorem gd_Draft_fill_24 : decode prog_3_method_11_code 24 = .ok (.iload_n 3, 1) := by decide +kernel
theorem gd_Draft_fill_25 : decode prog_3_method_11_code 25 = .ok (.iload_n 2, 1) := by decide +kernel
theorem gd_Draft_fill_26 : decode prog_3_method_11_code 26 = .ok (.if_icmp .ge 98, 3) := by decide +kernel
theorem gd_Draft_fill_29 : decode prog_3_method_11_code 29 = .ok (.aload_n 1, 1) := by decide +kernel
theorem gd_Draft_fill_30 : decode prog_3_method_11_code 30 = .ok (.iload_n 3, 1) := by decide +kernel
theorem gd_Draft_fill_31 : decode prog_3_method_11_code 31 = .ok (.aload_n 0, 1) := by decide +kernel
theorem gd_Draft_fill_32 : decode prog_3_method_11_code 32 = .ok (.getfield 24, 3) := by decide +kernel
theorem gd_Draft_fill_35 : decode prog_3_method_11_code 35 = .ok (.if_icmp .ge 12, 3) := by decide +kernel
theorem gd_Draft_fill_38 : decode prog_3_method_11_code 38 = .ok (.aload_n 0, 1) := by decide +kernel
theorem gd_Draft_fill_39 : decode prog_3_method_11_code 39 = .ok (.getfield 9, 3) := by decide +kernel
theorem gd_Draft_fill_42 : decode prog_3_method_11_code 42 = .ok (.iload_n 3, 1) := by decide +kernel
theorem gd_Draft_fill_43 : decode prog_3_method_11_code 43 = .ok (.iaload, 1) := by decide +kernel
theorem gd_Draft_fill_44 : decode prog_3_method_11_code 44 = .ok (.goto 4, 3) := by decide +kernel
theorem gd_Draft_fill_47 : decode prog_3_method_11_code 47 = .ok (.iconst 0, 1) := by decide +kernel
theorem gd_Draft_fill_48 : decode prog_3_method_11_code 48 = .ok (.invokevirtual 57, 3) := by decide +kernel
theorem gd_Draft_fill_51 : decode prog_3_method_11_code 51 = .ok (.iload_n 3, 1) := by decide +kernel
theorem gd_Draft_fill_52 : decode prog_3_method_11_code 52 = .ok (.aload_n 0, 1) := by decide +kernel
theorem gd_Draft_fill_53 : decode prog_3_method_11_code 53 = .ok (.getfield 24, 3) := by decide +kernel
theorem gd_Draft_fill_56 : decode prog_3_method_11_code 56 = .ok (.if_icmp .ge 7, 3) := by decide +kernel
theorem gd_Draft_fill_59 : decode prog_3_method_11_code 59 = .ok (.iload_n 3, 1) := by decide +kernel
theorem gd_Draft_fill_60 : decode prog_3_method_11_code 60 = .ok (.goto 12, 3) := by decide +kernel
theorem gd_Draft_fill_63 : decode prog_3_method_11_code 63 = .ok (.bipush 8, 2) := by decide +kernel
theorem gd_Draft_fill_65 : decode prog_3_method_11_code 65 = .ok (.iload_n 3, 1) := by decide +kernel
theorem gd_Draft_fill_66 : decode prog_3_method_11_code 66 = .ok (.iadd, 1) := by decide +kernel
theorem gd_Draft_fill_67 : decode prog_3_method_11_code 67 = .ok (.aload_n 0, 1) := by decide +kernel
theorem gd_Draft_fill_68 : decode prog_3_method_11_code 68 = .ok (.getfield 24, 3) := by decide +kernel
theorem gd_Draft_fill_71 : decode prog_3_method_11_code 71 = .ok (.isub, 1) := by decide +kernel
theorem gd_Draft_fill_72 : decode prog_3_method_11_code 72 = .ok (.istore 4, 2) := by decide +kernel
theorem gd_Draft_fill_74 : decode prog_3_method_11_code 74 = .ok (.iconst 0, 1) := by decide +kernel
theorem gd_Draft_fill_75 : decode prog_3_method_11_code 75 = .ok (.istore 5, 2) := by decide +kernel
theorem gd_Draft_fill_77 : decode prog_3_method_11_code 77 = .ok (.iload 5, 2) := by decide +kernel
theorem gd_Draft_fill_79 : decode prog_3_method_11_code 79 = .ok (.aload_n 0, 1) := by decide +kernel
theorem gd_Draft_fill_80 : decode prog_3_method_11_code 80 = .ok (.getfield 31, 3) := by decide +kernel
theorem gd_Draft_fill_83 : decode prog_3_method_11_code 83 = .ok (.if_icmp .ge 35, 3) := by decide +kernel
theorem gd_Draft_fill_86 : decode prog_3_method_11_code 86 = .ok (.iload 5, 2) := by decide +kernel
theorem gd_Draft_fill_88 : decode prog_3_method_11_code 88 = .ok (.bipush 20, 2) := by decide +kernel
theorem gd_Draft_fill_90 : decode prog_3_method_11_code 90 = .ok (.if_icmp .ge 28, 3) := by decide +kernel
theorem gd_Draft_fill_93 : decode prog_3_method_11_code 93 = .ok (.aload_n 0, 1) := by decide +kernel
theorem gd_Draft_fill_94 : decode prog_3_method_11_code 94 = .ok (.getfield 15, 3) := by decide +kernel
theorem gd_Draft_fill_97 : decode prog_3_method_11_code 97 = .ok (.iload 5, 2) := by decide +kernel
theorem gd_Draft_fill_99 : decode prog_3_method_11_code 99 = .ok (.iaload, 1) := by decide +kernel
theorem gd_Draft_fill_100 : decode prog_3_method_11_code 100 = .ok (.iload 4, 2) := by decide +kernel
theorem gd_Draft_fill_102 : decode prog_3_method_11_code 102 = .ok (.if_icmp .ne 10, 3) := by decide +kernel
theorem gd_Draft_fill_105 : decode prog_3_method_11_code 105 = .ok (.aload_n 0, 1) := by decide +kernel
theorem gd_Draft_fill_106 : decode prog_3_method_11_code 106 = .ok (.aload_n 1, 1) := by decide +kernel
theorem gd_Draft_fill_107 : decode prog_3_method_11_code 107 = .ok (.iload 5, 2) := by decide +kernel
theorem gd_Draft_fill_109 : decode prog_3_method_11_code 109 = .ok (.invokevirtual 61, 3) := by decide +kernel
theorem gd_Draft_fill_112 : decode prog_3_method_11_code 112 = .ok (.iinc 5 1, 3) := by decide +kernel
theorem gd_Draft_fill_115 : decode prog_3_method_11_code 115 = .ok (.goto (-38), 3) := by decide +kernel
theorem gd_Draft_fill_118 : decode prog_3_method_11_code 118 = .ok (.iinc 3 1, 3) := by decide +kernel
theorem gd_Draft_fill_121 : decode prog_3_method_11_code 121 = .ok (.goto (-97), 3) := by decide +kernel
theorem gd_Draft_fill_124 : decode prog_3_method_11_code 124 = .ok (.return_, 1) := by decide +kernel
theorem gd_Grammar_clear_0 : decode prog_6_method_2_code 0 = .ok (.aload_n 0, 1) := by decide +kernel
theorem gd_Grammar_clear_1 : decode prog_6_method_2_code 1 = .ok (.iconst 0, 1) := by decide +kernel
theorem gd_Grammar_clear_2 : decode prog_6_method_2_code 2 = .ok (.putfield 30, 3) := by decide +kernel
theorem gd_Grammar_clear_5 : decode prog_6_method_2_code 5 = .ok (.aload_n 0, 1) := by decide +kernel
theorem gd_Grammar_clear_6 : decode prog_6_method_2_code 6 = .ok (.iconst 0, 1) := by decide +kernel
theorem gd_Grammar_clear_7 : decode prog_6_method_2_code 7 = .ok (.putfield 34, 3) := by decide +kernel
theorem gd_Grammar_clear_10 : decode prog_6_method_2_code 10 = .ok (.aload_n 0, 1) := by decide +kernel
theorem gd_Grammar_clear_11 : decode prog_6_method_2_code 11 = .ok (.iconst 0, 1) := by decide +kernel
theorem gd_Grammar_clear_12 : decode prog_6_method_2_code 12 = .ok (.putfield 37, 3) := by decide +kernel
theorem gd_Grammar_clear_15 : decode prog_6_method_2_code 15 = .ok (.return_, 1) := by decide +kernel
theorem gd_Grammar_startName_0 : decode prog_6_method_3_code 0 = .ok (.aload_n 0, 1) := by decide +kernel
theorem gd_Grammar_startName_1 : decode prog_6_method_3_code 1 = .ok (.getfield 34, 3) := by decide +kernel
theorem gd_Grammar_startName_4 : decode prog_6_method_3_code 4 = .ok (.bipush 8, 2) := by decide +kernel
theorem gd_Grammar_startName_6 : decode prog_6_method_3_code 6 = .ok (.if_icmp .ge 46, 3) := by decide +kernel
theorem gd_Grammar_startName_9 : decode prog_6_method_3_code 9 = .ok (.aload_n 0, 1) := by decide +kernel
theorem gd_Grammar_startName_10 : decode prog_6_method_3_code 10 = .ok (.getfield 24, 3) := by decide +kernel
theorem gd_Grammar_startName_13 : decode prog_6_method_3_code 13 = .ok (.aload_n 0, 1) := by decide +kernel
theorem gd_Grammar_startName_14 : decode prog_6_method_3_code 14 = .ok (.getfield 34, 3) := by decide +kernel
theorem gd_Grammar_startName_17 : decode prog_6_method_3_code 17 = .ok (.iload_n 1, 1) := by decide +kernel
theorem gd_Grammar_startName_18 : decode prog_6_method_3_code 18 = .ok (.iastore, 1) := by decide +kernel
theorem gd_Grammar_startName_19 : decode prog_6_method_3_code 19 = .ok (.aload_n 0, 1) := by decide +kernel
theorem gd_Grammar_startName_20 : decode prog_6_method_3_code 20 = .ok (.getfield 9, 3) := by decide +kernel
theorem gd_Grammar_startName_23 : decode prog_6_method_3_code 23 = .ok (.aload_n 0, 1) := by decide +kernel
theorem gd_Grammar_startName_24 : decode prog_6_method_3_code 24 = .ok (.getfield 34, 3) := by decide +kernel
theorem gd_Grammar_startName_27 : decode prog_6_method_3_code 27 = .ok (.aload_n 0, 1) := by decide +kernel
theorem gd_Grammar_startName_28 : decode prog_6_method_3_code 28 = .ok (.getfield 37, 3) := by decide +kernel
theorem gd_Grammar_startName_31 : decode prog_6_method_3_code 31 = .ok (.iastore, 1) := by decide +kernel
theorem gd_Grammar_startName_32 : decode prog_6_method_3_code 32 = .ok (.aload_n 0, 1) := by decide +kernel
theorem gd_Grammar_startName_33 : decode prog_6_method_3_code 33 = .ok (.getfield 15, 3) := by decide +kernel
theorem gd_Grammar_startName_36 : decode prog_6_method_3_code 36 = .ok (.aload_n 0, 1) := by decide +kernel
theorem gd_Grammar_startName_37 : decode prog_6_method_3_code 37 = .ok (.getfield 34, 3) := by decide +kernel
theorem gd_Grammar_startName_40 : decode prog_6_method_3_code 40 = .ok (.iconst 0, 1) := by decide +kernel
theorem gd_Grammar_startName_41 : decode prog_6_method_3_code 41 = .ok (.iastore, 1) := by decide +kernel
theorem gd_Grammar_startName_42 : decode prog_6_method_3_code 42 = .ok (.aload_n 0, 1) := by decide +kernel
theorem gd_Grammar_startName_43 : decode prog_6_method_3_code 43 = .ok (.dup, 1) := by decide +kernel
theorem gd_Grammar_startName_44 : decode prog_6_method_3_code 44 = .ok (.getfield 34, 3) := by decide +kernel
theorem gd_Grammar_startName_47 : decode prog_6_method_3_code 47 = .ok (.iconst 1, 1) := by decide +kernel
theorem gd_Grammar_startName_48 : decode prog_6_method_3_code 48 = .ok (.iadd, 1) := by decide +kernel
theorem gd_Grammar_startName_49 : decode prog_6_method_3_code 49 = .ok (.putfield 34, 3) := by decide +kernel
theorem gd_Grammar_startName_52 : decode prog_6_method_3_code 52 = .ok (.return_, 1) := by decide +kernel
theorem gd_Draft_copyRule_0 : decode prog_3_method_12_code 0 = .ok (.aload_n 1, 1) := by decide +kernel
theorem gd_Draft_copyRule_1 : decode prog_3_method_12_code 1 = .ok (.invokevirtual 65, 3) := by decide +kernel
theorem gd_Draft_copyRule_4 : decode prog_3_method_12_code 4 = .ok (.iconst 0, 1) := by decide +kernel
theorem gd_Draft_copyRule_5 : decode prog_3_method_12_code 5 = .ok (.istore_n 3, 1) := by decide +kernel
theorem gd_Draft_copyRule_6 : decode prog_3_method_12_code 6 = .ok (.iload_n 3, 1) := by decide +kernel
theorem gd_Draft_copyRule_7 : decode prog_3_method_12_code 7 = .ok (.aload_n 0, 1) := by decide +kernel
theorem gd_Draft_copyRule_8 : decode prog_3_method_12_code 8 = .ok (.getfield 18, 3) := by decide +kernel
theorem gd_Draft_copyRule_11 : decode prog_3_method_12_code 11 = .ok (.iload_n 2, 1) := by decide +kernel
theorem gd_Draft_copyRule_12 : decode prog_3_method_12_code 12 = .ok (.iaload, 1) := by decide +kernel
theorem gd_Draft_copyRule_13 : decode prog_3_method_12_code 13 = .ok (.if_icmp .ge 75, 3) := by decide +kernel
theorem gd_Draft_copyRule_16 : decode prog_3_method_12_code 16 = .ok (.iload_n 3, 1) := by decide +kernel
theorem gd_Draft_copyRule_17 : decode prog_3_method_12_code 17 = .ok (.iconst 4, 1) := by decide +kernel
theorem gd_Draft_copyRule_18 : decode prog_3_method_12_code 18 = .ok (.if_icmp .ge 70, 3) := by decide +kernel
theorem gd_Draft_copyRule_21 : decode prog_3_method_12_code 21 = .ok (.aload_n 0, 1) := by decide +kernel
theorem gd_Draft_copyRule_22 : decode prog_3_method_12_code 22 = .ok (.getfield 21, 3) := by decide +kernel
theorem gd_Draft_copyRule_25 : decode prog_3_method_12_code 25 = .ok (.iload_n 2, 1) := by decide +kernel
theorem gd_Draft_copyRule_26 : decode prog_3_method_12_code 26 = .ok (.iconst 4, 1) := by decide +kernel
theorem gd_Draft_copyRule_27 : decode prog_3_method_12_code 27 = .ok (.imul, 1) := by decide +kernel
theorem gd_Draft_copyRule_28 : decode prog_3_method_12_code 28 = .ok (.iload_n 3, 1) := by decide +kernel
theorem gd_Draft_copyRule_29 : decode prog_3_method_12_code 29 = .ok (.iadd, 1) := by decide +kernel
theorem gd_Draft_copyRule_30 : decode prog_3_method_12_code 30 = .ok (.iaload, 1) := by decide +kernel
theorem gd_Draft_copyRule_31 : decode prog_3_method_12_code 31 = .ok (.istore 4, 2) := by decide +kernel
theorem gd_Draft_copyRule_33 : decode prog_3_method_12_code 33 = .ok (.iconst (-1), 1) := by decide +kernel
theorem gd_Draft_copyRule_34 : decode prog_3_method_12_code 34 = .ok (.iload 4, 2) := by decide +kernel
theorem gd_Draft_copyRule_36 : decode prog_3_method_12_code 36 = .ok (.isub, 1) := by decide +kernel
theorem gd_Draft_copyRule_37 : decode prog_3_method_12_code 37 = .ok (.istore 5, 2) := by decide +kernel
theorem gd_Draft_copyRule_39 : decode prog_3_method_12_code 39 = .ok (.iload 5, 2) := by decide +kernel
theorem gd_Draft_copyRule_41 : decode prog_3_method_12_code 41 = .ok (.bipush 8, 2) := by decide +kernel
theorem gd_Draft_copyRule_43 : decode prog_3_method_12_code 43 = .ok (.if_icmp .ge 13, 3) := by decide +kernel
theorem gd_Draft_copyRule_46 : decode prog_3_method_12_code 46 = .ok (.aload_n 0, 1) := by decide +kernel
theorem gd_Draft_copyRule_47 : decode prog_3_method_12_code 47 = .ok (.getfield 24, 3) := by decide +kernel
theorem gd_Draft_copyRule_50 : decode prog_3_method_12_code 50 = .ok (.iload 5, 2) := by decide +kernel
theorem gd_Draft_copyRule_52 : decode prog_3_method_12_code 52 = .ok (.iadd, 1) := by decide +kernel
theorem gd_Draft_copyRule_53 : decode prog_3_method_12_code 53 = .ok (.goto 9, 3) := by decide +kernel
theorem gd_Draft_copyRule_56 : decode prog_3_method_12_code 56 = .ok (.aload_n 0, 1) := by decide +kernel
theorem gd_Draft_copyRule_57 : decode prog_3_method_12_code 57 = .ok (.iload 5, 2) := by decide +kernel
theorem gd_Draft_copyRule_59 : decode prog_3_method_12_code 59 = .ok (.invokevirtual 68, 3) := by decide +kernel
theorem gd_Draft_copyRule_62 : decode prog_3_method_12_code 62 = .ok (.istore 6, 2) := by decide +kernel
theorem gd_Draft_copyRule_64 : decode prog_3_method_12_code 64 = .ok (.aload_n 1, 1) := by decide +kernel
theorem gd_Draft_copyRule_65 : decode prog_3_method_12_code 65 = .ok (.iload 4, 2) := by decide +kernel
theorem gd_Draft_copyRule_67 : decode prog_3_method_12_code 67 = .ok (.ifCond .le 8, 3) := by decide +kernel
theorem gd_Draft_copyRule_70 : decode prog_3_method_12_code 70 = .ok (.iload 4, 2) := by decide +kernel
theorem gd_Draft_copyRule_72 : decode prog_3_method_12_code 72 = .ok (.goto 7, 3) := by decide +kernel
theorem gd_Draft_copyRule_75 : decode prog_3_method_12_code 75 = .ok (.iconst (-1), 1) := by decide +kernel
theorem gd_Draft_copyRule_76 : decode prog_3_method_12_code 76 = .ok (.iload 6, 2) := by decide +kernel
theorem gd_Draft_copyRule_78 : decode prog_3_method_12_code 78 = .ok (.isub, 1) := by decide +kernel
theorem gd_Draft_copyRule_79 : decode prog_3_method_12_code 79 = .ok (.invokevirtual 72, 3) := by decide +kernel
theorem gd_Draft_copyRule_82 : decode prog_3_method_12_code 82 = .ok (.iinc 3 1, 3) := by decide +kernel
theorem gd_Draft_copyRule_85 : decode prog_3_method_12_code 85 = .ok (.goto (-79), 3) := by decide +kernel
theorem gd_Draft_copyRule_88 : decode prog_3_method_12_code 88 = .ok (.return_, 1) := by decide +kernel
theorem gd_Grammar_startRule_0 : decode prog_6_method_4_code 0 = .ok (.aload_n 0, 1) := by decide +kernel
theorem gd_Grammar_startRule_1 : decode prog_6_method_4_code 1 = .ok (.getfield 37, 3) := by decide +kernel
theorem gd_Grammar_startRule_4 : decode prog_6_method_4_code 4 = .ok (.bipush 20, 2) := by decide +kernel
theorem gd_Grammar_startRule_6 : decode prog_6_method_4_code 6 = .ok (.if_icmp .ge 60, 3) := by decide +kernel
theorem gd_Grammar_startRule_9 : decode prog_6_method_4_code 9 = .ok (.aload_n 0, 1) := by decide +kernel
theorem gd_Grammar_startRule_10 : decode prog_6_method_4_code 10 = .ok (.getfield 34, 3) := by decide +kernel
theorem gd_Grammar_startRule_13 : decode prog_6_method_4_code 13 = .ok (.ifCond .le 53, 3) := by decide +kernel
theorem gd_Grammar_startRule_16 : decode prog_6_method_4_code 16 = .ok (.aload_n 0, 1) := by decide +kernel
theorem gd_Grammar_startRule_17 : decode prog_6_method_4_code 17 = .ok (.getfield 18, 3) := by decide +kernel
theorem gd_Grammar_startRule_20 : decode prog_6_method_4_code 20 = .ok (.aload_n 0, 1) := by decide +kernel
theorem gd_Grammar_startRule_21 : decode prog_6_method_4_code 21 = .ok (.getfield 37, 3) := by decide +kernel
theorem gd_Grammar_startRule_24 : decode prog_6_method_4_code 24 = .ok (.aload_n 0, 1) := by decide +kernel
theorem gd_Grammar_startRule_25 : decode prog_6_method_4_code 25 = .ok (.getfield 34, 3) := by decide +kernel
theorem gd_Grammar_startRule_28 : decode prog_6_method_4_code 28 = .ok (.iconst 1, 1) := by decide +kernel
theorem gd_Grammar_startRule_29 : decode prog_6_method_4_code 29 = .ok (.isub, 1) := by decide +kernel
theorem gd_Grammar_startRule_30 : decode prog_6_method_4_code 30 = .ok (.iastore, 1) := by decide +kernel
theorem gd_Grammar_startRule_31 : decode prog_6_method_4_code 31 = .ok (.aload_n 0, 1) := by decide +kernel
theorem gd_Grammar_startRule_32 : decode prog_6_method_4_code 32 = .ok (.getfield 21, 3) := by decide +kernel
theorem gd_Grammar_startRule_35 : decode prog_6_method_4_code 35 = .ok (.aload_n 0, 1) := by decide +kernel
theorem gd_Grammar_startRule_36 : decode prog_6_method_4_code 36 = .ok (.getfield 37, 3) := by decide +kernel
theorem gd_Grammar_startRule_39 : decode prog_6_method_4_code 39 = .ok (.iconst 0, 1) := by decide +kernel
theorem gd_Grammar_startRule_40 : decode prog_6_method_4_code 40 = .ok (.iastore, 1) := by decide +kernel
theorem gd_Grammar_startRule_41 : decode prog_6_method_4_code 41 = .ok (.aload_n 0, 1) := by decide +kernel
theorem gd_Grammar_startRule_42 : decode prog_6_method_4_code 42 = .ok (.getfield 15, 3) := by decide +kernel
theorem gd_Grammar_startRule_45 : decode prog_6_method_4_code 45 = .ok (.aload_n 0, 1) := by decide +kernel
theorem gd_Grammar_startRule_46 : decode prog_6_method_4_code 46 = .ok (.getfield 34, 3) := by decide +kernel
theorem gd_Grammar_startRule_49 : decode prog_6_method_4_code 49 = .ok (.iconst 1, 1) := by decide +kernel
theorem gd_Grammar_startRule_50 : decode prog_6_method_4_code 50 = .ok (.isub, 1) := by decide +kernel
theorem gd_Grammar_startRule_51 : decode prog_6_method_4_code 51 = .ok (.dup2, 1) := by decide +kernel
theorem gd_Grammar_startRule_52 : decode prog_6_method_4_code 52 = .ok (.iaload, 1) := by decide +kernel
theorem gd_Grammar_startRule_53 : decode prog_6_method_4_code 53 = .ok (.iconst 1, 1) := by decide +kernel
theorem gd_Grammar_startRule_54 : decode prog_6_method_4_code 54 = .ok (.iadd, 1) := by decide +kernel
theorem gd_Grammar_startRule_55 : decode prog_6_method_4_code 55 = .ok (.iastore, 1) := by decide +kernel
theorem gd_Grammar_startRule_56 : decode prog_6_method_4_code 56 = .ok (.aload_n 0, 1) := by decide +kernel
theorem gd_Grammar_startRule_57 : decode prog_6_method_4_code 57 = .ok (.dup, 1) := by decide +kernel
theorem gd_Grammar_startRule_58 : decode prog_6_method_4_code 58 = .ok (.getfield 37, 3) := by decide +kernel
theorem gd_Grammar_startRule_61 : decode prog_6_method_4_code 61 = .ok (.iconst 1, 1) := by decide +kernel
theorem gd_Grammar_startRule_62 : decode prog_6_method_4_code 62 = .ok (.iadd, 1) := by decide +kernel
theorem gd_Grammar_startRule_63 : decode prog_6_method_4_code 63 = .ok (.putfield 37, 3) := by decide +kernel
theorem gd_Grammar_startRule_66 : decode prog_6_method_4_code 66 = .ok (.return_, 1) := by decide +kernel
theorem gd_Grammar_addPart_0 : decode prog_6_method_5_code 0 = .ok (.aload_n 0, 1) := by decide +kernel
theorem gd_Grammar_addPart_1 : decode prog_6_method_5_code 1 = .ok (.getfield 37, 3) := by decide +kernel
theorem gd_Grammar_addPart_4 : decode prog_6_method_5_code 4 = .ok (.iconst 1, 1) := by decide +kernel
theorem gd_Grammar_addPart_5 : decode prog_6_method_5_code 5 = .ok (.isub, 1) := by decide +kernel
theorem gd_Grammar_addPart_6 : decode prog_6_method_5_code 6 = .ok (.istore_n 2, 1) := by decide +kernel
theorem gd_Grammar_addPart_7 : decode prog_6_method_5_code 7 = .ok (.iload_n 2, 1) := by decide +kernel
theorem gd_Grammar_addPart_8 : decode prog_6_method_5_code 8 = .ok (.ifCond .lt 39, 3) := by decide +kernel
theorem gd_Grammar_addPart_11 : decode prog_6_method_5_code 11 = .ok (.aload_n 0, 1) := by decide +kernel
theorem gd_Grammar_addPart_12 : decode prog_6_method_5_code 12 = .ok (.getfield 21, 3) := by decide +kernel
theorem gd_Grammar_addPart_15 : decode prog_6_method_5_code 15 = .ok (.iload_n 2, 1) := by decide +kernel
theorem gd_Grammar_addPart_16 : decode prog_6_method_5_code 16 = .ok (.iaload, 1) := by decide +kernel
theorem gd_Grammar_addPart_17 : decode prog_6_method_5_code 17 = .ok (.iconst 4, 1) := by decide +kernel
theorem gd_Grammar_addPart_18 : decode prog_6_method_5_code 18 = .ok (.if_icmp .ge 29, 3) := by decide +kernel
theorem gd_Grammar_addPart_21 : decode prog_6_method_5_code 21 = .ok (.aload_n 0, 1) := by decide +kernel
theorem gd_Grammar_addPart_22 : decode prog_6_method_5_code 22 = .ok (.getfield 27, 3) := by decide +kernel
theorem gd_Grammar_addPart_25 : decode prog_6_method_5_code 25 = .ok (.iload_n 2, 1) := by decide +kernel
theorem gd_Grammar_addPart_26 : decode prog_6_method_5_code 26 = .ok (.iconst 4, 1) := by decide +kernel
theorem gd_Grammar_addPart_27 : decode prog_6_method_5_code 27 = .ok (.imul, 1) := by decide +kernel
theorem gd_Grammar_addPart_28 : decode prog_6_method_5_code 28 = .ok (.aload_n 0, 1) := by decide +kernel
theorem gd_Grammar_addPart_29 : decode prog_6_method_5_code 29 = .ok (.getfield 21, 3) := by decide +kernel
theorem gd_Grammar_addPart_32 : decode prog_6_method_5_code 32 = .ok (.iload_n 2, 1) := by decide +kernel
theorem gd_Grammar_addPart_33 : decode prog_6_method_5_code 33 = .ok (.iaload, 1) := by decide +kernel
theorem gd_Grammar_addPart_34 : decode prog_6_method_5_code 34 = .ok (.iadd, 1) := by decide +kernel
theorem gd_Grammar_addPart_35 : decode prog_6_method_5_code 35 = .ok (.iload_n 1, 1) := by decide +kernel
theorem gd_Grammar_addPart_36 : decode prog_6_method_5_code 36 = .ok (.iastore, 1) := by decide +kernel
theorem gd_Grammar_addPart_37 : decode prog_6_method_5_code 37 = .ok (.aload_n 0, 1) := by decide +kernel
theorem gd_Grammar_addPart_38 : decode prog_6_method_5_code 38 = .ok (.getfield 21, 3) := by decide +kernel
theorem gd_Grammar_addPart_41 : decode prog_6_method_5_code 41 = .ok (.iload_n 2, 1) := by decide +kernel
theorem gd_Grammar_addPart_42 : decode prog_6_method_5_code 42 = .ok (.dup2, 1) := by decide +kernel
theorem gd_Grammar_addPart_43 : decode prog_6_method_5_code 43 = .ok (.iaload, 1) := by decide +kernel
theorem gd_Grammar_addPart_44 : decode prog_6_method_5_code 44 = .ok (.iconst 1, 1) := by decide +kernel
theorem gd_Grammar_addPart_45 : decode prog_6_method_5_code 45 = .ok (.iadd, 1) := by decide +kernel
theorem gd_Grammar_addPart_46 : decode prog_6_method_5_code 46 = .ok (.iastore, 1) := by decide +kernel
theorem gd_Grammar_addPart_47 : decode prog_6_method_5_code 47 = .ok (.return_, 1) := by decide +kernel
theorem gd_Facts_find_0 : decode prog_4_method_2_code 0 = .ok (.aload_n 0, 1) := by decide +kernel
theorem gd_Facts_find_1 : decode prog_4_method_2_code 1 = .ok (.invokevirtual 31, 3) := by decide +kernel
theorem gd_Facts_find_4 : decode prog_4_method_2_code 4 = .ok (.aload_n 0, 1) := by decide +kernel
theorem gd_Facts_find_5 : decode prog_4_method_2_code 5 = .ok (.invokevirtual 34, 3) := by decide +kernel
theorem gd_Facts_find_8 : decode prog_4_method_2_code 8 = .ok (.aload_n 0, 1) := by decide +kernel
theorem gd_Facts_find_9 : decode prog_4_method_2_code 9 = .ok (.invokevirtual 37, 3) := by decide +kernel
theorem gd_Facts_find_12 : decode prog_4_method_2_code 12 = .ok (.aload_n 0, 1) := by decide +kernel
theorem gd_Facts_find_13 : decode prog_4_method_2_code 13 = .ok (.aload_n 0, 1) := by decide +kernel
theorem gd_Facts_find_14 : decode prog_4_method_2_code 14 = .ok (.ldc 40, 2) := by decide +kernel
theorem gd_Facts_find_16 : decode prog_4_method_2_code 16 = .ok (.invokevirtual 41, 3) := by decide +kernel
theorem gd_Facts_find_19 : decode prog_4_method_2_code 19 = .ok (.putfield 45, 3) := by decide +kernel
theorem gd_Facts_find_22 : decode prog_4_method_2_code 22 = .ok (.aload_n 0, 1) := by decide +kernel
theorem gd_Facts_find_23 : decode prog_4_method_2_code 23 = .ok (.aload_n 0, 1) := by decide +kernel
theorem gd_Facts_find_24 : decode prog_4_method_2_code 24 = .ok (.getfield 49, 3) := by decide +kernel
theorem gd_Facts_find_27 : decode prog_4_method_2_code 27 = .ok (.iconst 1, 1) := by decide +kernel
theorem gd_Facts_find_28 : decode prog_4_method_2_code 28 = .ok (.iand, 1) := by decide +kernel
theorem gd_Facts_find_29 : decode prog_4_method_2_code 29 = .ok (.ifCond .ne 7, 3) := by decide +kernel
theorem gd_Facts_find_32 : decode prog_4_method_2_code 32 = .ok (.iconst 0, 1) := by decide +kernel
theorem gd_Facts_find_33 : decode prog_4_method_2_code 33 = .ok (.goto 11, 3) := by decide +kernel
theorem gd_Facts_find_36 : decode prog_4_method_2_code 36 = .ok (.aload_n 0, 1) := by decide +kernel
theorem gd_Facts_find_37 : decode prog_4_method_2_code 37 = .ok (.aload_n 0, 1) := by decide +kernel
theorem gd_Facts_find_38 : decode prog_4_method_2_code 38 = .ok (.getfield 52, 3) := by decide +kernel
theorem gd_Facts_find_41 : decode prog_4_method_2_code 41 = .ok (.invokevirtual 41, 3) := by decide +kernel
theorem gd_Facts_find_44 : decode prog_4_method_2_code 44 = .ok (.putfield 55, 3) := by decide +kernel
theorem gd_Facts_find_47 : decode prog_4_method_2_code 47 = .ok (.aload_n 0, 1) := by decide +kernel
theorem gd_Facts_find_48 : decode prog_4_method_2_code 48 = .ok (.invokevirtual 58, 3) := by decide +kernel
theorem gd_Facts_find_51 : decode prog_4_method_2_code 51 = .ok (.aload_n 0, 1) := by decide +kernel
theorem gd_Facts_find_52 : decode prog_4_method_2_code 52 = .ok (.invokevirtual 61, 3) := by decide +kernel
theorem gd_Facts_find_55 : decode prog_4_method_2_code 55 = .ok (.aload_n 0, 1) := by decide +kernel
theorem gd_Facts_find_56 : decode prog_4_method_2_code 56 = .ok (.invokevirtual 64, 3) := by decide +kernel
theorem gd_Facts_find_59 : decode prog_4_method_2_code 59 = .ok (.aload_n 0, 1) := by decide +kernel
theorem gd_Facts_find_60 : decode prog_4_method_2_code 60 = .ok (.invokevirtual 67, 3) := by decide +kernel
theorem gd_Facts_find_63 : decode prog_4_method_2_code 63 = .ok (.return_, 1) := by decide +kernel
theorem gd_Facts_findEmpty_0 : decode prog_4_method_4_code 0 = .ok (.aload_n 0, 1) := by decide +kernel
theorem gd_Facts_findEmpty_1 : decode prog_4_method_4_code 1 = .ok (.iconst 0, 1) := by decide +kernel
theorem gd_Facts_findEmpty_2 : decode prog_4_method_4_code 2 = .ok (.putfield 70, 3) := by decide +kernel
theorem gd_Facts_findEmpty_5 : decode prog_4_method_4_code 5 = .ok (.iconst 0, 1) := by decide +kernel
theorem gd_Facts_findEmpty_6 : decode prog_4_method_4_code 6 = .ok (.istore_n 1, 1) := by decide +kernel
theorem gd_Facts_findEmpty_7 : decode prog_4_method_4_code 7 = .ok (.iload_n 1, 1) := by decide +kernel
theorem gd_Facts_findEmpty_8 : decode prog_4_method_4_code 8 = .ok (.aload_n 0, 1) := by decide +kernel
theorem gd_Facts_findEmpty_9 : decode prog_4_method_4_code 9 = .ok (.getfield 27, 3) := by decide +kernel
theorem gd_Facts_findEmpty_12 : decode prog_4_method_4_code 12 = .ok (.getfield 73, 3) := by decide +kernel
theorem gd_Facts_findEmpty_15 : decode prog_4_method_4_code 15 = .ok (.if_icmp .ge 58, 3) := by decide +kernel
theorem gd_Facts_findEmpty_18 : decode prog_4_method_4_code 18 = .ok (.iconst 0, 1) := by decide +kernel
theorem gd_Facts_findEmpty_19 : decode prog_4_method_4_code 19 = .ok (.istore_n 2, 1) := by decide +kernel
theorem gd_Facts_findEmpty_20 : decode prog_4_method_4_code 20 = .ok (.iload_n 2, 1) := by decide +kernel
theorem gd_Facts_findEmpty_21 : decode prog_4_method_4_code 21 = .ok (.aload_n 0, 1) := by decide +kernel
theorem gd_Facts_findEmpty_22 : decode prog_4_method_4_code 22 = .ok (.getfield 27, 3) := by decide +kernel
theorem gd_Facts_findEmpty_25 : decode prog_4_method_4_code 25 = .ok (.getfield 78, 3) := by decide +kernel
theorem gd_Facts_findEmpty_28 : decode prog_4_method_4_code 28 = .ok (.if_icmp .ge 39, 3) := by decide +kernel
theorem gd_Facts_findEmpty_31 : decode prog_4_method_4_code 31 = .ok (.aload_n 0, 1) := by decide +kernel
theorem gd_Facts_findEmpty_32 : decode prog_4_method_4_code 32 = .ok (.iload_n 2, 1) := by decide +kernel
theorem gd_Facts_findEmpty_33 : decode prog_4_method_4_code 33 = .ok (.iconst 0, 1) := by decide +kernel
theorem gd_Facts_findEmpty_34 : decode prog_4_method_4_code 34 = .ok (.iconst (-1), 1) := by decide +kernel
theorem gd_Facts_findEmpty_35 : decode prog_4_method_4_code 35 = .ok (.invokevirtual 81, 3) := by decide +kernel
theorem gd_Facts_findEmpty_38 : decode prog_4_method_4_code 38 = .ok (.ifCond .eq 23, 3) := by decide +kernel
theorem gd_Facts_findEmpty_41 : decode prog_4_method_4_code 41 = .ok (.aload_n 0, 1) := by decide +kernel
theorem gd_Facts_findEmpty_42 : decode prog_4_method_4_code 42 = .ok (.dup, 1) := by decide +kernel
theorem gd_Facts_findEmpty_43 : decode prog_4_method_4_code 43 = .ok (.getfield 70, 3) := by decide +kernel
theorem gd_Facts_findEmpty_46 : decode prog_4_method_4_code 46 = .ok (.iconst 1, 1) := by decide +kernel
theorem gd_Facts_findEmpty_47 : decode prog_4_method_4_code 47 = .ok (.aload_n 0, 1) := by decide +kernel
theorem gd_Facts_findEmpty_48 : decode prog_4_method_4_code 48 = .ok (.getfield 27, 3) := by decide +kernel
theorem gd_Facts_findEmpty_51 : decode prog_4_method_4_code 51 = .ok (.getfield 85, 3) := by decide +kernel
theorem gd_Facts_findEmpty_54 : decode prog_4_method_4_code 54 = .ok (.iload_n 2, 1) := by decide +kernel
theorem gd_Facts_findEmpty_55 : decode prog_4_method_4_code 55 = .ok (.iaload, 1) := by decide +kernel
theorem gd_Facts_findEmpty_56 : decode prog_4_method_4_code 56 = .ok (.ishl, 1) := by decide +kernel
theorem gd_Facts_findEmpty_57 : decode prog_4_method_4_code 57 = .ok (.ior, 1) := by decide +kernel
theorem gd_Facts_findEmpty_58 : decode prog_4_method_4_code 58 = .ok (.putfield 70, 3) := by decide +kernel
theorem gd_Facts_findEmpty_61 : decode prog_4_method_4_code 61 = .ok (.iinc 2 1, 3) := by decide +kernel
theorem gd_Facts_findEmpty_64 : decode prog_4_method_4_code 64 = .ok (.goto (-44), 3) := by decide +kernel
theorem gd_Facts_findEmpty_67 : decode prog_4_method_4_code 67 = .ok (.iinc 1 1, 3) := by decide +kernel
theorem gd_Facts_findEmpty_70 : decode prog_4_method_4_code 70 = .ok (.goto (-63), 3) := by decide +kernel
theorem gd_Facts_findEmpty_73 : decode prog_4_method_4_code 73 = .ok (.return_, 1) := by decide +kernel
theorem gd_Facts_isEmptyRow_0 : decode prog_4_method_5_code 0 = .ok (.iload_n 2, 1) := by decide +kernel
theorem gd_Facts_isEmptyRow_1 : decode prog_4_method_5_code 1 = .ok (.istore 4, 2) := by decide +kernel
theorem gd_Facts_isEmptyRow_3 : decode prog_4_method_5_code 3 = .ok (.iload 4, 2) := by decide +kernel
theorem gd_Facts_isEmptyRow_5 : decode prog_4_method_5_code 5 = .ok (.aload_n 0, 1) := by decide +kernel
theorem gd_Facts_isEmptyRow_6 : decode prog_4_method_5_code 6 = .ok (.getfield 27, 3) := by decide +kernel
theorem gd_Facts_isEmptyRow_9 : decode prog_4_method_5_code 9 = .ok (.getfield 88, 3) := by decide +kernel
theorem gd_Facts_isEmptyRow_12 : decode prog_4_method_5_code 12 = .ok (.iload_n 1, 1) := by decide +kernel
theorem gd_Facts_isEmptyRow_13 : decode prog_4_method_5_code 13 = .ok (.iaload, 1) := by decide +kernel
theorem gd_Facts_isEmptyRow_14 : decode prog_4_method_5_code 14 = .ok (.if_icmp .ge 47, 3) := by decide +kernel
theorem gd_Facts_isEmptyRow_17 : decode prog_4_method_5_code 17 = .ok (.aload_n 0, 1) := by decide +kernel
theorem gd_Facts_isEmptyRow_18 : decode prog_4_method_5_code 18 = .ok (.getfield 27, 3) := by decide +kernel
theorem gd_Facts_isEmptyRow_21 : decode prog_4_method_5_code 21 = .ok (.iload_n 1, 1) := by decide +kernel
theorem gd_Facts_isEmptyRow_22 : decode prog_4_method_5_code 22 = .ok (.iload 4, 2) := by decide +kernel
theorem gd_Facts_isEmptyRow_24 : decode prog_4_method_5_code 24 = .ok (.invokevirtual 91, 3) := by decide +kernel
theorem gd_Facts_isEmptyRow_27 : decode prog_4_method_5_code 27 = .ok (.istore 5, 2) := by decide +kernel
theorem gd_Facts_isEmptyRow_29 : decode prog_4_method_5_code 29 = .ok (.iload 4, 2) := by decide +kernel
theorem gd_Facts_isEmptyRow_31 : decode prog_4_method_5_code 31 = .ok (.iload_n 3, 1) := by decide +kernel
theorem gd_Facts_isEmptyRow_32 : decode prog_4_method_5_code 32 = .ok (.if_icmp .eq 23, 3) := by decide +kernel
theorem gd_Facts_isEmptyRow_35 : decode prog_4_method_5_code 35 = .ok (.iload 5, 2) := by decide +kernel
theorem gd_Facts_isEmptyRow_37 : decode prog_4_method_5_code 37 = .ok (.iconst (-1), 1) := by decide +kernel
theorem gd_Facts_isEmptyRow_38 : decode prog_4_method_5_code 38 = .ok (.if_icmp .eq 15, 3) := by decide +kernel
theorem gd_Facts_isEmptyRow_41 : decode prog_4_method_5_code 41 = .ok (.aload_n 0, 1) := by decide +kernel
theorem gd_Facts_isEmptyRow_42 : decode prog_4_method_5_code 42 = .ok (.getfield 70, 3) := by decide +kernel
theorem gd_Facts_isEmptyRow_45 : decode prog_4_method_5_code 45 = .ok (.iload 5, 2) := by decide +kernel
theorem gd_Facts_isEmptyRow_47 : decode prog_4_method_5_code 47 = .ok (.ishr, 1) := by decide +kernel
theorem gd_Facts_isEmptyRow_48 : decode prog_4_method_5_code 48 = .ok (.iconst 1, 1) := by decide +kernel
theorem gd_Facts_isEmptyRow_49 : decode prog_4_method_5_code 49 = .ok (.iand, 1) := by decide +kernel
theorem gd_Facts_isEmptyRow_50 : decode prog_4_method_5_code 50 = .ok (.ifCond .ne 5, 3) := by decide +kernel
theorem gd_Facts_isEmptyRow_53 : decode prog_4_method_5_code 53 = .ok (.iconst 0, 1) := by decide +kernel
theorem gd_Facts_isEmptyRow_54 : decode prog_4_method_5_code 54 = .ok (.ireturn, 1) := by decide +kernel
theorem gd_Facts_isEmptyRow_55 : decode prog_4_method_5_code 55 = .ok (.iinc 4 1, 3) := by decide +kernel
theorem gd_Facts_isEmptyRow_58 : decode prog_4_method_5_code 58 = .ok (.goto (-55), 3) := by decide +kernel
theorem gd_Facts_isEmptyRow_61 : decode prog_4_method_5_code 61 = .ok (.iconst 1, 1) := by decide +kernel
theorem gd_Facts_isEmptyRow_62 : decode prog_4_method_5_code 62 = .ok (.ireturn, 1) := by decide +kernel
theorem gd_Grammar_nameAt_0 : decode prog_6_method_8_code 0 = .ok (.aload_n 0, 1) := by decide +kernel
theorem gd_Grammar_nameAt_1 : decode prog_6_method_8_code 1 = .ok (.aload_n 0, 1) := by decide +kernel
theorem gd_Grammar_nameAt_2 : decode prog_6_method_8_code 2 = .ok (.iload_n 1, 1) := by decide +kernel
theorem gd_Grammar_nameAt_3 : decode prog_6_method_8_code 3 = .ok (.iload_n 2, 1) := by decide +kernel
theorem gd_Grammar_nameAt_4 : decode prog_6_method_8_code 4 = .ok (.invokevirtual 40, 3) := by decide +kernel
theorem gd_Grammar_nameAt_7 : decode prog_6_method_8_code 7 = .ok (.invokevirtual 44, 3) := by decide +kernel
theorem gd_Grammar_nameAt_10 : decode prog_6_method_8_code 10 = .ok (.ireturn, 1) := by decide +kernel
theorem gd_Grammar_partAt_0 : decode prog_6_method_6_code 0 = .ok (.iload_n 1, 1) := by decide +kernel
theorem gd_Grammar_partAt_1 : decode prog_6_method_6_code 1 = .ok (.ifCond .lt 38, 3) := by decide +kernel
theorem gd_Grammar_partAt_4 : decode prog_6_method_6_code 4 = .ok (.iload_n 1, 1) := by decide +kernel
theorem gd_Grammar_partAt_5 : decode prog_6_method_6_code 5 = .ok (.aload_n 0, 1) := by decide +kernel
theorem gd_Grammar_partAt_6 : decode prog_6_method_6_code 6 = .ok (.getfield 37, 3) := by decide +kernel
theorem gd_Grammar_partAt_9 : decode prog_6_method_6_code 9 = .ok (.if_icmp .ge 30, 3) := by decide +kernel
theorem gd_Grammar_partAt_12 : decode prog_6_method_6_code 12 = .ok (.iload_n 2, 1) := by decide +kernel
theorem gd_Grammar_partAt_13 : decode prog_6_method_6_code 13 = .ok (.ifCond .lt 26, 3) := by decide +kernel
theorem gd_Grammar_partAt_16 : decode prog_6_method_6_code 16 = .ok (.iload_n 2, 1) := by decide +kernel
theorem gd_Grammar_partAt_17 : decode prog_6_method_6_code 17 = .ok (.aload_n 0, 1) := by decide +kernel
theorem gd_Grammar_partAt_18 : decode prog_6_method_6_code 18 = .ok (.getfield 21, 3) := by decide +kernel
theorem gd_Grammar_partAt_21 : decode prog_6_method_6_code 21 = .ok (.iload_n 1, 1) := by decide +kernel
theorem gd_Grammar_partAt_22 : decode prog_6_method_6_code 22 = .ok (.iaload, 1) := by decide +kernel
theorem gd_Grammar_partAt_23 : decode prog_6_method_6_code 23 = .ok (.if_icmp .ge 16, 3) := by decide +kernel
theorem gd_Grammar_partAt_26 : decode prog_6_method_6_code 26 = .ok (.aload_n 0, 1) := by decide +kernel
theorem gd_Grammar_partAt_27 : decode prog_6_method_6_code 27 = .ok (.getfield 27, 3) := by decide +kernel
theorem gd_Grammar_partAt_30 : decode prog_6_method_6_code 30 = .ok (.iload_n 1, 1) := by decide +kernel
theorem gd_Grammar_partAt_31 : decode prog_6_method_6_code 31 = .ok (.iconst 4, 1) := by decide +kernel
theorem gd_Grammar_partAt_32 : decode prog_6_method_6_code 32 = .ok (.imul, 1) := by decide +kernel
theorem gd_Grammar_partAt_33 : decode prog_6_method_6_code 33 = .ok (.iload_n 2, 1) := by decide +kernel
theorem gd_Grammar_partAt_34 : decode prog_6_method_6_code 34 = .ok (.iadd, 1) := by decide +kernel
theorem gd_Grammar_partAt_35 : decode prog_6_method_6_code 35 = .ok (.iaload, 1) := by decide +kernel
theorem gd_Grammar_partAt_36 : decode prog_6_method_6_code 36 = .ok (.goto 4, 3) := by decide +kernel
theorem gd_Grammar_partAt_39 : decode prog_6_method_6_code 39 = .ok (.iconst 0, 1) := by decide +kernel
theorem gd_Grammar_partAt_40 : decode prog_6_method_6_code 40 = .ok (.ireturn, 1) := by decide +kernel
theorem gd_Grammar_nameOf_0 : decode prog_6_method_7_code 0 = .ok (.iload_n 1, 1) := by decide +kernel
theorem gd_Grammar_nameOf_1 : decode prog_6_method_7_code 1 = .ok (.ifCond .ge 18, 3) := by decide +kernel
theorem gd_Grammar_nameOf_4 : decode prog_6_method_7_code 4 = .ok (.iload_n 1, 1) := by decide +kernel
theorem gd_Grammar_nameOf_5 : decode prog_6_method_7_code 5 = .ok (.aload_n 0, 1) := by decide +kernel
theorem gd_Grammar_nameOf_6 : decode prog_6_method_7_code 6 = .ok (.getfield 34, 3) := by decide +kernel
theorem gd_Grammar_nameOf_9 : decode prog_6_method_7_code 9 = .ok (.ineg, 1) := by decide +kernel
theorem gd_Grammar_nameOf_10 : decode prog_6_method_7_code 10 = .ok (.if_icmp .lt 9, 3) := by decide +kernel
theorem gd_Grammar_nameOf_13 : decode prog_6_method_7_code 13 = .ok (.iconst (-1), 1) := by decide +kernel
theorem gd_Grammar_nameOf_14 : decode prog_6_method_7_code 14 = .ok (.iload_n 1, 1) := by decide +kernel
theorem gd_Grammar_nameOf_15 : decode prog_6_method_7_code 15 = .ok (.isub, 1) := by decide +kernel
theorem gd_Grammar_nameOf_16 : decode prog_6_method_7_code 16 = .ok (.goto 4, 3) := by decide +kernel
theorem gd_Grammar_nameOf_19 : decode prog_6_method_7_code 19 = .ok (.iconst (-1), 1) := by decide +kernel
theorem gd_Grammar_nameOf_20 : decode prog_6_method_7_code 20 = .ok (.ireturn, 1) := by decide +kernel
theorem gd_Facts_findLeast_0 : decode prog_4_method_6_code 0 = .ok (.aload_n 0, 1) := by decide +kernel
theorem gd_Facts_findLeast_1 : decode prog_4_method_6_code 1 = .ok (.getfield 9, 3) := by decide +kernel
theorem gd_Facts_findLeast_4 : decode prog_4_method_6_code 4 = .ok (.ldc 95, 2) := by decide +kernel
theorem gd_Facts_findLeast_6 : decode prog_4_method_6_code 6 = .ok (.invokestatic 96, 3) := by decide +kernel
theorem gd_Facts_findLeast_9 : decode prog_4_method_6_code 9 = .ok (.iconst 0, 1) := by decide +kernel
theorem gd_Facts_findLeast_10 : decode prog_4_method_6_code 10 = .ok (.istore_n 1, 1) := by decide +kernel
theorem gd_Facts_findLeast_11 : decode prog_4_method_6_code 11 = .ok (.iload_n 1, 1) := by decide +kernel
theorem gd_Facts_findLeast_12 : decode prog_4_method_6_code 12 = .ok (.aload_n 0, 1) := by decide +kernel
theorem gd_Facts_findLeast_13 : decode prog_4_method_6_code 13 = .ok (.getfield 27, 3) := by decide +kernel
theorem gd_Facts_findLeast_16 : decode prog_4_method_6_code 16 = .ok (.getfield 73, 3) := by decide +kernel
theorem gd_Facts_findLeast_19 : decode prog_4_method_6_code 19 = .ok (.if_icmp .ge 59, 3) := by decide +kernel
theorem gd_Facts_findLeast_22 : decode prog_4_method_6_code 22 = .ok (.iconst 0, 1) := by decide +kernel
theorem gd_Facts_findLeast_23 : decode prog_4_method_6_code 23 = .ok (.istore_n 2, 1) := by decide +kernel
theorem gd_Facts_findLeast_24 : decode prog_4_method_6_code 24 = .ok (.iload_n 2, 1) := by decide +kernel
theorem gd_Facts_findLeast_25 : decode prog_4_method_6_code 25 = .ok (.aload_n 0, 1) := by decide +kernel
theorem gd_Facts_findLeast_26 : decode prog_4_method_6_code 26 = .ok (.getfield 27, 3) := by decide +kernel
theorem gd_Facts_findLeast_29 : decode prog_4_method_6_code 29 = .ok (.getfield 78, 3) := by decide +kernel
theorem gd_Facts_findLeast_32 : decode prog_4_method_6_code 32 = .ok (.if_icmp .ge 40, 3) := by decide +kernel
theorem gd_Facts_findLeast_35 : decode prog_4_method_6_code 35 = .ok (.aload_n 0, 1) := by decide +kernel
theorem gd_Facts_findLeast_36 : decode prog_4_method_6_code 36 = .ok (.getfield 27, 3) := by decide +kernel
theorem gd_Facts_findLeast_39 : decode prog_4_method_6_code 39 = .ok (.getfield 85, 3) := by decide +kernel
theorem gd_Facts_findLeast_42 : decode prog_4_method_6_code 42 = .ok (.iload_n 2, 1) := by decide +kernel
theorem gd_Facts_findLeast_43 : decode prog_4_method_6_code 43 = .ok (.iaload, 1) := by decide +kernel
theorem gd_Facts_findLeast_44 : decode prog_4_method_6_code 44 = .ok (.istore_n 3, 1) := by decide +kernel
theorem gd_Facts_findLeast_45 : decode prog_4_method_6_code 45 = .ok (.aload_n 0, 1) := by decide +kernel
theorem gd_Facts_findLeast_46 : decode prog_4_method_6_code 46 = .ok (.getfield 9, 3) := by decide +kernel
theorem gd_Facts_findLeast_49 : decode prog_4_method_6_code 49 = .ok (.iload_n 3, 1) := by decide +kernel
theorem gd_Facts_findLeast_50 : decode prog_4_method_6_code 50 = .ok (.aload_n 0, 1) := by decide +kernel
theorem gd_Facts_findLeast_51 : decode prog_4_method_6_code 51 = .ok (.getfield 9, 3) := by decide +kernel
theorem gd_Facts_findLeast_54 : decode prog_4_method_6_code 54 = .ok (.iload_n 3, 1) := by decide +kernel
theorem gd_Facts_findLeast_55 : decode prog_4_method_6_code 55 = .ok (.iaload, 1) := by decide +kernel
theorem gd_Facts_findLeast_56 : decode prog_4_method_6_code 56 = .ok (.aload_n 0, 1) := by decide +kernel
theorem gd_Facts_findLeast_57 : decode prog_4_method_6_code 57 = .ok (.iload_n 2, 1) := by decide +kernel
theorem gd_Facts_findLeast_58 : decode prog_4_method_6_code 58 = .ok (.iconst 0, 1) := by decide +kernel
theorem gd_Facts_findLeast_59 : decode prog_4_method_6_code 59 = .ok (.invokevirtual 102, 3) := by decide +kernel
theorem gd_Facts_findLeast_62 : decode prog_4_method_6_code 62 = .ok (.invokestatic 105, 3) := by decide +kernel
theorem gd_Facts_findLeast_65 : decode prog_4_method_6_code 65 = .ok (.iastore, 1) := by decide +kernel
theorem gd_Facts_findLeast_66 : decode prog_4_method_6_code 66 = .ok (.iinc 2 1, 3) := by decide +kernel
theorem gd_Facts_findLeast_69 : decode prog_4_method_6_code 69 = .ok (.goto (-45), 3) := by decide +kernel
theorem gd_Facts_findLeast_72 : decode prog_4_method_6_code 72 = .ok (.iinc 1 1, 3) := by decide +kernel
theorem gd_Facts_findLeast_75 : decode prog_4_method_6_code 75 = .ok (.goto (-64), 3) := by decide +kernel
theorem gd_Facts_findLeast_78 : decode prog_4_method_6_code 78 = .ok (.aload_n 0, 1) := by decide +kernel
theorem gd_Facts_findLeast_79 : decode prog_4_method_6_code 79 = .ok (.iconst 0, 1) := by decide +kernel
theorem gd_Facts_findLeast_80 : decode prog_4_method_6_code 80 = .ok (.putfield 49, 3) := by decide +kernel
theorem gd_Facts_findLeast_83 : decode prog_4_method_6_code 83 = .ok (.iconst 0, 1) := by decide +kernel
theorem gd_Facts_findLeast_84 : decode prog_4_method_6_code 84 = .ok (.istore_n 1, 1) := by decide +kernel
theorem gd_Facts_findLeast_85 : decode prog_4_method_6_code 85 = .ok (.iload_n 1, 1) := by decide +kernel
theorem gd_Facts_findLeast_86 : decode prog_4_method_6_code 86 = .ok (.aload_n 0, 1) := by decide +kernel
theorem gd_Facts_findLeast_87 : decode prog_4_method_6_code 87 = .ok (.getfield 27, 3) := by decide +kernel
theorem gd_Facts_findLeast_90 : decode prog_4_method_6_code 90 = .ok (.getfield 73, 3) := by decide +kernel
theorem gd_Facts_findLeast_93 : decode prog_4_method_6_code 93 = .ok (.if_icmp .ge 32, 3) := by decide +kernel
theorem gd_Facts_findLeast_96 : decode prog_4_method_6_code 96 = .ok (.aload_n 0, 1) := by decide +kernel
theorem gd_Facts_findLeast_97 : decode prog_4_method_6_code 97 = .ok (.getfield 9, 3) := by decide +kernel
theorem gd_Facts_findLeast_100 : decode prog_4_method_6_code 100 = .ok (.iload_n 1, 1) := by decide +kernel
theorem gd_Facts_findLeast_101 : decode prog_4_method_6_code 101 = .ok (.iaload, 1) := by decide +kernel
theorem gd_Facts_findLeast_102 : decode prog_4_method_6_code 102 = .ok (.ldc 95, 2) := by decide +kernel
theorem gd_Facts_findLeast_104 : decode prog_4_method_6_code 104 = .ok (.if_icmp .ge 15, 3) := by decide +kernel
theorem gd_Facts_findLeast_107 : decode prog_4_method_6_code 107 = .ok (.aload_n 0, 1) := by decide +kernel
theorem gd_Facts_findLeast_108 : decode prog_4_method_6_code 108 = .ok (.dup, 1) := by decide +kernel
theorem gd_Facts_findLeast_109 : decode prog_4_method_6_code 109 = .ok (.getfield 49, 3) := by decide +kernel
theorem gd_Facts_findLeast_112 : decode prog_4_method_6_code 112 = .ok (.iconst 1, 1) := by decide +kernel
theorem gd_Facts_findLeast_113 : decode prog_4_method_6_code 113 = .ok (.iload_n 1, 1) := by decide +kernel
theorem gd_Facts_findLeast_114 : decode prog_4_method_6_code 114 = .ok (.ishl, 1) := by decide +kernel
theorem gd_Facts_findLeast_115 : decode prog_4_method_6_code 115 = .ok (.ior, 1) := by decide +kernel
theorem gd_Facts_findLeast_116 : decode prog_4_method_6_code 116 = .ok (.putfield 49, 3) := by decide +kernel
theorem gd_Facts_findLeast_119 : decode prog_4_method_6_code 119 = .ok (.iinc 1 1, 3) := by decide +kernel
theorem gd_Facts_findLeast_122 : decode prog_4_method_6_code 122 = .ok (.goto (-37), 3) := by decide +kernel
theorem gd_Facts_findLeast_125 : decode prog_4_method_6_code 125 = .ok (.return_, 1) := by decide +kernel
theorem gd_JArrays_fill_0 : decode prog_18_method_103_code 0 = .ok (.iconst 0, 1) := by decide +kernel
theorem gd_JArrays_fill_1 : decode prog_18_method_103_code 1 = .ok (.istore_n 2, 1) := by decide +kernel
theorem gd_JArrays_fill_2 : decode prog_18_method_103_code 2 = .ok (.aload_n 0, 1) := by decide +kernel
theorem gd_JArrays_fill_3 : decode prog_18_method_103_code 3 = .ok (.arraylength, 1) := by decide +kernel
theorem gd_JArrays_fill_4 : decode prog_18_method_103_code 4 = .ok (.istore_n 3, 1) := by decide +kernel
theorem gd_JArrays_fill_5 : decode prog_18_method_103_code 5 = .ok (.iload_n 2, 1) := by decide +kernel
theorem gd_JArrays_fill_6 : decode prog_18_method_103_code 6 = .ok (.iload_n 3, 1) := by decide +kernel
theorem gd_JArrays_fill_7 : decode prog_18_method_103_code 7 = .ok (.if_icmp .ge 13, 3) := by decide +kernel
theorem gd_JArrays_fill_10 : decode prog_18_method_103_code 10 = .ok (.aload_n 0, 1) := by decide +kernel
theorem gd_JArrays_fill_11 : decode prog_18_method_103_code 11 = .ok (.iload_n 2, 1) := by decide +kernel
theorem gd_JArrays_fill_12 : decode prog_18_method_103_code 12 = .ok (.iload_n 1, 1) := by decide +kernel
theorem gd_JArrays_fill_13 : decode prog_18_method_103_code 13 = .ok (.iastore, 1) := by decide +kernel
theorem gd_JArrays_fill_14 : decode prog_18_method_103_code 14 = .ok (.iinc 2 1, 3) := by decide +kernel
theorem gd_JArrays_fill_17 : decode prog_18_method_103_code 17 = .ok (.goto (-12), 3) := by decide +kernel
theorem gd_JArrays_fill_20 : decode prog_18_method_103_code 20 = .ok (.return_, 1) := by decide +kernel
theorem gd_Facts_leastOfRow_0 : decode prog_4_method_7_code 0 = .ok (.iconst 0, 1) := by decide +kernel
theorem gd_Facts_leastOfRow_1 : decode prog_4_method_7_code 1 = .ok (.istore_n 3, 1) := by decide +kernel
theorem gd_Facts_leastOfRow_2 : decode prog_4_method_7_code 2 = .ok (.iload_n 2, 1) := by decide +kernel
theorem gd_Facts_leastOfRow_3 : decode prog_4_method_7_code 3 = .ok (.istore 4, 2) := by decide +kernel
theorem gd_Facts_leastOfRow_5 : decode prog_4_method_7_code 5 = .ok (.iload 4, 2) := by decide +kernel
theorem gd_Facts_leastOfRow_7 : decode prog_4_method_7_code 7 = .ok (.aload_n 0, 1) := by decide +kernel
theorem gd_Facts_leastOfRow_8 : decode prog_4_method_7_code 8 = .ok (.getfield 27, 3) := by decide +kernel
theorem gd_Facts_leastOfRow_11 : decode prog_4_method_7_code 11 = .ok (.getfield 88, 3) := by decide +kernel
theorem gd_Facts_leastOfRow_14 : decode prog_4_method_7_code 14 = .ok (.iload_n 1, 1) := by decide +kernel
theorem gd_Facts_leastOfRow_15 : decode prog_4_method_7_code 15 = .ok (.iaload, 1) := by decide +kernel
theorem gd_Facts_leastOfRow_16 : decode prog_4_method_7_code 16 = .ok (.if_icmp .ge 41, 3) := by decide +kernel
theorem gd_Facts_leastOfRow_19 : decode prog_4_method_7_code 19 = .ok (.aload_n 0, 1) := by decide +kernel
theorem gd_Facts_leastOfRow_20 : decode prog_4_method_7_code 20 = .ok (.getfield 27, 3) := by decide +kernel
theorem gd_Facts_leastOfRow_23 : decode prog_4_method_7_code 23 = .ok (.iload_n 1, 1) := by decide +kernel
theorem gd_Facts_leastOfRow_24 : decode prog_4_method_7_code 24 = .ok (.iload 4, 2) := by decide +kernel
theorem gd_Facts_leastOfRow_26 : decode prog_4_method_7_code 26 = .ok (.invokevirtual 91, 3) := by decide +kernel
theorem gd_Facts_leastOfRow_29 : decode prog_4_method_7_code 29 = .ok (.istore 5, 2) := by decide +kernel
theorem gd_Facts_leastOfRow_31 : decode prog_4_method_7_code 31 = .ok (.iload_n 3, 1) := by decide +kernel
theorem gd_Facts_leastOfRow_32 : decode prog_4_method_7_code 32 = .ok (.iload 5, 2) := by decide +kernel
theorem gd_Facts_leastOfRow_34 : decode prog_4_method_7_code 34 = .ok (.iconst (-1), 1) := by decide +kernel
theorem gd_Facts_leastOfRow_35 : decode prog_4_method_7_code 35 = .ok (.if_icmp .ne 7, 3) := by decide +kernel
theorem gd_Facts_leastOfRow_38 : decode prog_4_method_7_code 38 = .ok (.iconst 1, 1) := by decide +kernel
theorem gd_Facts_leastOfRow_39 : decode prog_4_method_7_code 39 = .ok (.goto 10, 3) := by decide +kernel
theorem gd_Facts_leastOfRow_42 : decode prog_4_method_7_code 42 = .ok (.aload_n 0, 1) := by decide +kernel
theorem gd_Facts_leastOfRow_43 : decode prog_4_method_7_code 43 = .ok (.getfield 9, 3) := by decide +kernel
theorem gd_Facts_leastOfRow_46 : decode prog_4_method_7_code 46 = .ok (.iload 5, 2) := by decide +kernel
theorem gd_Facts_leastOfRow_48 : decode prog_4_method_7_code 48 = .ok (.iaload, 1) := by decide +kernel
theorem gd_Facts_leastOfRow_49 : decode prog_4_method_7_code 49 = .ok (.iadd, 1) := by decide +kernel
theorem gd_Facts_leastOfRow_50 : decode prog_4_method_7_code 50 = .ok (.istore_n 3, 1) := by decide +kernel
theorem gd_Facts_leastOfRow_51 : decode prog_4_method_7_code 51 = .ok (.iinc 4 1, 3) := by decide +kernel
theorem gd_Facts_leastOfRow_54 : decode prog_4_method_7_code 54 = .ok (.goto (-49), 3) := by decide +kernel
theorem gd_Facts_leastOfRow_57 : decode prog_4_method_7_code 57 = .ok (.iload_n 3, 1) := by decide +kernel
theorem gd_Facts_leastOfRow_58 : decode prog_4_method_7_code 58 = .ok (.ldc 95, 2) := by decide +kernel
theorem gd_Facts_leastOfRow_60 : decode prog_4_method_7_code 60 = .ok (.invokestatic 105, 3) := by decide +kernel
theorem gd_Facts_leastOfRow_63 : decode prog_4_method_7_code 63 = .ok (.ireturn, 1) := by decide +kernel
theorem gd_Facts_findUsefulRules_0 : decode prog_4_method_8_code 0 = .ok (.aload_n 0, 1) := by decide +kernel
theorem gd_Facts_findUsefulRules_1 : decode prog_4_method_8_code 1 = .ok (.iconst 0, 1) := by decide +kernel
theorem gd_Facts_findUsefulRules_2 : decode prog_4_method_8_code 2 = .ok (.putfield 52, 3) := by decide +kernel
theorem gd_Facts_findUsefulRules_5 : decode prog_4_method_8_code 5 = .ok (.iconst 0, 1) := by decide +kernel
theorem gd_Facts_findUsefulRules_6 : decode prog_4_method_8_code 6 = .ok (.istore_n 1, 1) := by decide +kernel
theorem gd_Facts_findUsefulRules_7 : decode prog_4_method_8_code 7 = .ok (.iload_n 1, 1) := by decide +kernel
theorem gd_Facts_findUsefulRules_8 : decode prog_4_method_8_code 8 = .ok (.aload_n 0, 1) := by decide +kernel
theorem gd_Facts_findUsefulRules_9 : decode prog_4_method_8_code 9 = .ok (.getfield 27, 3) := by decide +kernel
theorem gd_Facts_findUsefulRules_12 : decode prog_4_method_8_code 12 = .ok (.getfield 78, 3) := by decide +kernel
theorem gd_Facts_findUsefulRules_15 : decode prog_4_method_8_code 15 = .ok (.if_icmp .ge 32, 3) := by decide +kernel
theorem gd_Facts_findUsefulRules_18 : decode prog_4_method_8_code 18 = .ok (.aload_n 0, 1) := by decide +kernel
theorem gd_Facts_findUsefulRules_19 : decode prog_4_method_8_code 19 = .ok (.iload_n 1, 1) := by decide +kernel
theorem gd_Facts_findUsefulRules_20 : decode prog_4_method_8_code 20 = .ok (.iconst 0, 1) := by decide +kernel
theorem gd_Facts_findUsefulRules_21 : decode prog_4_method_8_code 21 = .ok (.invokevirtual 102, 3) := by decide +kernel
theorem gd_Facts_findUsefulRules_24 : decode prog_4_method_8_code 24 = .ok (.ldc 95, 2) := by decide +kernel
theorem gd_Facts_findUsefulRules_26 : decode prog_4_method_8_code 26 = .ok (.if_icmp .ge 15, 3) := by decide +kernel
theorem gd_Facts_findUsefulRules_29 : decode prog_4_method_8_code 29 = .ok (.aload_n 0, 1) := by decide +kernel
theorem gd_Facts_findUsefulRules_30 : decode prog_4_method_8_code 30 = .ok (.dup, 1) := by decide +kernel
theorem gd_Facts_findUsefulRules_31 : decode prog_4_method_8_code 31 = .ok (.getfield 52, 3) := by decide +kernel
theorem gd_Facts_findUsefulRules_34 : decode prog_4_method_8_code 34 = .ok (.iconst 1, 1) := by decide +kernel
theorem gd_Facts_findUsefulRules_35 : decode prog_4_method_8_code 35 = .ok (.iload_n 1, 1) := by decide +kernel
theorem gd_Facts_findUsefulRules_36 : decode prog_4_method_8_code 36 = .ok (.ishl, 1) := by decide +kernel
theorem gd_Facts_findUsefulRules_37 : decode prog_4_method_8_code 37 = .ok (.ior, 1) := by decide +kernel
theorem gd_Facts_findUsefulRules_38 : decode prog_4_method_8_code 38 = .ok (.putfield 52, 3) := by decide +kernel
theorem gd_Facts_findUsefulRules_41 : decode prog_4_method_8_code 41 = .ok (.iinc 1 1, 3) := by decide +kernel
theorem gd_Facts_findUsefulRules_44 : decode prog_4_method_8_code 44 = .ok (.goto (-37), 3) := by decide +kernel
theorem gd_Facts_findUsefulRules_47 : decode prog_4_method_8_code 47 = .ok (.return_, 1) := by decide +kernel
theorem gd_Facts_spread_0 : decode prog_4_method_9_code 0 = .ok (.iconst 1, 1) := by decide +kernel
theorem gd_Facts_spread_1 : decode prog_4_method_9_code 1 = .ok (.istore_n 2, 1) := by decide +kernel
theorem gd_Facts_spread_2 : decode prog_4_method_9_code 2 = .ok (.iconst 0, 1) := by decide +kernel
theorem gd_Facts_spread_3 : decode prog_4_method_9_code 3 = .ok (.istore_n 3, 1) := by decide +kernel
theorem gd_Facts_spread_4 : decode prog_4_method_9_code 4 = .ok (.iload_n 3, 1) := by decide +kernel
theorem gd_Facts_spread_5 : decode prog_4_method_9_code 5 = .ok (.aload_n 0, 1) := by decide +kernel
theorem gd_Facts_spread_6 : decode prog_4_method_9_code 6 = .ok (.getfield 27, 3) := by decide +kernel
theorem gd_Facts_spread_9 : decode prog_4_method_9_code 9 = .ok (.getfield 73, 3) := by decide +kernel
theorem gd_Facts_spread_12 : decode prog_4_method_9_code 12 = .ok (.if_icmp .ge 65, 3) := by decide +kernel
theorem gd_Facts_spread_15 : decode prog_4_method_9_code 15 = .ok (.iconst 0, 1) := by decide +kernel
theorem gd_Facts_spread_16 : decode prog_4_method_9_code 16 = .ok (.istore 4, 2) := by decide +kernel
theorem gd_Facts_spread_18 : decode prog_4_method_9_code 18 = .ok (.iload 4, 2) := by decide +kernel
theorem gd_Facts_spread_20 : decode prog_4_method_9_code 20 = .ok (.aload_n 0, 1) := by decide +kernel
theorem gd_Facts_spread_21 : decode prog_4_method_9_code 21 = .ok (.getfield 27, 3) := by decide +kernel
theorem gd_Facts_spread_24 : decode prog_4_method_9_code 24 = .ok (.getfield 78, 3) := by decide +kernel
theorem gd_Facts_spread_27 : decode prog_4_method_9_code 27 = .ok (.if_icmp .ge 44, 3) := by decide +kernel
theorem gd_Facts_spread_30 : decode prog_4_method_9_code 30 = .ok (.iload_n 1, 1) := by decide +kernel
theorem gd_Facts_spread_31 : decode prog_4_method_9_code 31 = .ok (.iload 4, 2) := by decide +kernel
theorem gd_Facts_spread_33 : decode prog_4_method_9_code 33 = .ok (.ishr, 1) := by decide +kernel
theorem gd_Facts_spread_34 : decode prog_4_method_9_code 34 = .ok (.iconst 1, 1) := by decide +kernel
theorem gd_Facts_spread_35 : decode prog_4_method_9_code 35 = .ok (.iand, 1) := by decide +kernel
theorem gd_Facts_spread_36 : decode prog_4_method_9_code 36 = .ok (.ifCond .eq 29, 3) := by decide +kernel
theorem gd_Facts_spread_39 : decode prog_4_method_9_code 39 = .ok (.iload_n 2, 1) := by decide +kernel
theorem gd_Facts_spread_40 : decode prog_4_method_9_code 40 = .ok (.aload_n 0, 1) := by decide +kernel
theorem gd_Facts_spread_41 : decode prog_4_method_9_code 41 = .ok (.getfield 27, 3) := by decide +kernel
theorem gd_Facts_spread_44 : decode prog_4_method_9_code 44 = .ok (.getfield 85, 3) := by decide +kernel
theorem gd_Facts_spread_47 : decode prog_4_method_9_code 47 = .ok (.iload 4, 2) := by decide +kernel
theorem gd_Facts_spread_49 : decode prog_4_method_9_code 49 = .ok (.iaload, 1) := by decide +kernel
theorem gd_Facts_spread_50 : decode prog_4_method_9_code 50 = .ok (.ishr, 1) := by decide +kernel
theorem gd_Facts_spread_51 : decode prog_4_method_9_code 51 = .ok (.iconst 1, 1) := by decide +kernel
theorem gd_Facts_spread_52 : decode prog_4_method_9_code 52 = .ok (.iand, 1) := by decide +kernel
theorem gd_Facts_spread_53 : decode prog_4_method_9_code 53 = .ok (.ifCond .eq 12, 3) := by decide +kernel
theorem gd_Facts_spread_56 : decode prog_4_method_9_code 56 = .ok (.iload_n 2, 1) := by decide +kernel
theorem gd_Facts_spread_57 : decode prog_4_method_9_code 57 = .ok (.aload_n 0, 1) := by decide +kernel
theorem gd_Facts_spread_58 : decode prog_4_method_9_code 58 = .ok (.iload 4, 2) := by decide +kernel
theorem gd_Facts_spread_60 : decode prog_4_method_9_code 60 = .ok (.invokevirtual 110, 3) := by decide +kernel
theorem gd_Facts_spread_63 : decode prog_4_method_9_code 63 = .ok (.ior, 1) := by decide +kernel
theorem gd_Facts_spread_64 : decode prog_4_method_9_code 64 = .ok (.istore_n 2, 1) := by decide +kernel
theorem gd_Facts_spread_65 : decode prog_4_method_9_code 65 = .ok (.iinc 4 1, 3) := by decide +kernel
theorem gd_Facts_spread_68 : decode prog_4_method_9_code 68 = .ok (.goto (-50), 3) := by decide +kernel
theorem gd_Facts_spread_71 : decode prog_4_method_9_code 71 = .ok (.iinc 3 1, 3) := by decide +kernel
theorem gd_Facts_spread_74 : decode prog_4_method_9_code 74 = .ok (.goto (-70), 3) := by decide +kernel
theorem gd_Facts_spread_77 : decode prog_4_method_9_code 77 = .ok (.iload_n 2, 1) := by decide +kernel
theorem gd_Facts_spread_78 : decode prog_4_method_9_code 78 = .ok (.ireturn, 1) := by decide +kernel
theorem gd_Facts_namesIn_0 : decode prog_4_method_10_code 0 = .ok (.iconst 0, 1) := by decide +kernel
theorem gd_Facts_namesIn_1 : decode prog_4_method_10_code 1 = .ok (.istore_n 2, 1) := by decide +kernel
theorem gd_Facts_namesIn_2 : decode prog_4_method_10_code 2 = .ok (.iconst 0, 1) := by decide +kernel
theorem gd_Facts_namesIn_3 : decode prog_4_method_10_code 3 = .ok (.istore_n 3, 1) := by decide +kernel
theorem gd_Facts_namesIn_4 : decode prog_4_method_10_code 4 = .ok (.iload_n 3, 1) := by decide +kernel
theorem gd_Facts_namesIn_5 : decode prog_4_method_10_code 5 = .ok (.aload_n 0, 1) := by decide +kernel
theorem gd_Facts_namesIn_6 : decode prog_4_method_10_code 6 = .ok (.getfield 27, 3) := by decide +kernel
theorem gd_Facts_namesIn_9 : decode prog_4_method_10_code 9 = .ok (.getfield 88, 3) := by decide +kernel
theorem gd_Facts_namesIn_12 : decode prog_4_method_10_code 12 = .ok (.iload_n 1, 1) := by decide +kernel
theorem gd_Facts_namesIn_13 : decode prog_4_method_10_code 13 = .ok (.iaload, 1) := by decide +kernel
theorem gd_Facts_namesIn_14 : decode prog_4_method_10_code 14 = .ok (.if_icmp .ge 37, 3) := by decide +kernel
theorem gd_Facts_namesIn_17 : decode prog_4_method_10_code 17 = .ok (.aload_n 0, 1) := by decide +kernel
theorem gd_Facts_namesIn_18 : decode prog_4_method_10_code 18 = .ok (.getfield 27, 3) := by decide +kernel
theorem gd_Facts_namesIn_21 : decode prog_4_method_10_code 21 = .ok (.iload_n 1, 1) := by decide +kernel
theorem gd_Facts_namesIn_22 : decode prog_4_method_10_code 22 = .ok (.iload_n 3, 1) := by decide +kernel
theorem gd_Facts_namesIn_23 : decode prog_4_method_10_code 23 = .ok (.invokevirtual 91, 3) := by decide +kernel
theorem gd_Facts_namesIn_26 : decode prog_4_method_10_code 26 = .ok (.istore 4, 2) := by decide +kernel
theorem gd_Facts_namesIn_28 : decode prog_4_method_10_code 28 = .ok (.iload_n 2, 1) := by decide +kernel
theorem gd_Facts_namesIn_29 : decode prog_4_method_10_code 29 = .ok (.iload 4, 2) := by decide +kernel
theorem gd_Facts_namesIn_31 : decode prog_4_method_10_code 31 = .ok (.iconst (-1), 1) := by decide +kernel
theorem gd_Facts_namesIn_32 : decode prog_4_method_10_code 32 = .ok (.if_icmp .ne 7, 3) := by decide +kernel
theorem gd_Facts_namesIn_35 : decode prog_4_method_10_code 35 = .ok (.iconst 0, 1) := by decide +kernel
theorem gd_Facts_namesIn_36 : decode prog_4_method_10_code 36 = .ok (.goto 7, 3) := by decide +kernel
theorem gd_Facts_namesIn_39 : decode prog_4_method_10_code 39 = .ok (.iconst 1, 1) := by decide +kernel
theorem gd_Facts_namesIn_40 : decode prog_4_method_10_code 40 = .ok (.iload 4, 2) := by decide +kernel
theorem gd_Facts_namesIn_42 : decode prog_4_method_10_code 42 = .ok (.ishl, 1) := by decide +kernel
theorem gd_Facts_namesIn_43 : decode prog_4_method_10_code 43 = .ok (.ior, 1) := by decide +kernel
theorem gd_Facts_namesIn_44 : decode prog_4_method_10_code 44 = .ok (.istore_n 2, 1) := by decide +kernel
theorem gd_Facts_namesIn_45 : decode prog_4_method_10_code 45 = .ok (.iinc 3 1, 3) := by decide +kernel
theorem gd_Facts_namesIn_48 : decode prog_4_method_10_code 48 = .ok (.goto (-44), 3) := by decide +kernel
theorem gd_Facts_namesIn_51 : decode prog_4_method_10_code 51 = .ok (.iload_n 2, 1) := by decide +kernel
theorem gd_Facts_namesIn_52 : decode prog_4_method_10_code 52 = .ok (.ireturn, 1) := by decide +kernel
theorem gd_Facts_findOver_0 : decode prog_4_method_11_code 0 = .ok (.aload_n 0, 1) := by decide +kernel
theorem gd_Facts_findOver_1 : decode prog_4_method_11_code 1 = .ok (.getfield 21, 3) := by decide +kernel
theorem gd_Facts_findOver_4 : decode prog_4_method_11_code 4 = .ok (.iconst 0, 1) := by decide +kernel
theorem gd_Facts_findOver_5 : decode prog_4_method_11_code 5 = .ok (.invokestatic 96, 3) := by decide +kernel
theorem gd_Facts_findOver_8 : decode prog_4_method_11_code 8 = .ok (.iconst 0, 1) := by decide +kernel
theorem gd_Facts_findOver_9 : decode prog_4_method_11_code 9 = .ok (.istore_n 1, 1) := by decide +kernel
theorem gd_Facts_findOver_10 : decode prog_4_method_11_code 10 = .ok (.iload_n 1, 1) := by decide +kernel
theorem gd_Facts_findOver_11 : decode prog_4_method_11_code 11 = .ok (.aload_n 0, 1) := by decide +kernel
theorem gd_Facts_findOver_12 : decode prog_4_method_11_code 12 = .ok (.getfield 27, 3) := by decide +kernel
theorem gd_Facts_findOver_15 : decode prog_4_method_11_code 15 = .ok (.getfield 78, 3) := by decide +kernel
theorem gd_Facts_findOver_18 : decode prog_4_method_11_code 18 = .ok (.if_icmp .ge 75, 3) := by decide +kernel
theorem gd_Facts_findOver_21 : decode prog_4_method_11_code 21 = .ok (.iconst 0, 1) := by decide +kernel
theorem gd_Facts_findOver_22 : decode prog_4_method_11_code 22 = .ok (.istore_n 2, 1) := by decide +kernel
theorem gd_Facts_findOver_23 : decode prog_4_method_11_code 23 = .ok (.iload_n 2, 1) := by decide +kernel
theorem gd_Facts_findOver_24 : decode prog_4_method_11_code 24 = .ok (.aload_n 0, 1) := by decide +kernel
theorem gd_Facts_findOver_25 : decode prog_4_method_11_code 25 = .ok (.getfield 27, 3) := by decide +kernel
theorem gd_Facts_findOver_28 : decode prog_4_method_11_code 28 = .ok (.getfield 88, 3) := by decide +kernel
theorem gd_Facts_findOver_31 : decode prog_4_method_11_code 31 = .ok (.iload_n 1, 1) := by decide +kernel
theorem gd_Facts_findOver_32 : decode prog_4_method_11_code 32 = .ok (.iaload, 1) := by decide +kernel
theorem gd_Facts_findOver_33 : decode prog_4_method_11_code 33 = .ok (.if_icmp .ge 54, 3) := by decide +kernel
theorem gd_Facts_findOver_36 : decode prog_4_method_11_code 36 = .ok (.aload_n 0, 1) := by decide +kernel
theorem gd_Facts_findOver_37 : decode prog_4_method_11_code 37 = .ok (.getfield 27, 3) := by decide +kernel
theorem gd_Facts_findOver_40 : decode prog_4_method_11_code 40 = .ok (.iload_n 1, 1) := by decide +kernel
theorem gd_Facts_findOver_41 : decode prog_4_method_11_code 41 = .ok (.iload_n 2, 1) := by decide +kernel
theorem gd_Facts_findOver_42 : decode prog_4_method_11_code 42 = .ok (.invokevirtual 91, 3) := by decide +kernel
theorem gd_Facts_findOver_45 : decode prog_4_method_11_code 45 = .ok (.istore_n 3, 1) := by decide +kernel
theorem gd_Facts_findOver_46 : decode prog_4_method_11_code 46 = .ok (.iload_n 3, 1) := by decide +kernel
theorem gd_Facts_findOver_47 : decode prog_4_method_11_code 47 = .ok (.iconst (-1), 1) := by decide +kernel
theorem gd_Facts_findOver_48 : decode prog_4_method_11_code 48 = .ok (.if_icmp .eq 33, 3) := by decide +kernel
theorem gd_Facts_findOver_51 : decode prog_4_method_11_code 51 = .ok (.aload_n 0, 1) := by decide +kernel
theorem gd_Facts_findOver_52 : decode prog_4_method_11_code 52 = .ok (.iload_n 1, 1) := by decide +kernel
theorem gd_Facts_findOver_53 : decode prog_4_method_11_code 53 = .ok (.iconst 0, 1) := by decide +kernel
theorem gd_Facts_findOver_54 : decode prog_4_method_11_code 54 = .ok (.iload_n 2, 1) := by decide +kernel
theorem gd_Facts_findOver_55 : decode prog_4_method_11_code 55 = .ok (.invokevirtual 81, 3) := by decide +kernel
theorem gd_Facts_findOver_58 : decode prog_4_method_11_code 58 = .ok (.ifCond .eq 23, 3) := by decide +kernel
theorem gd_Facts_findOver_61 : decode prog_4_method_11_code 61 = .ok (.aload_n 0, 1) := by decide +kernel
theorem gd_Facts_findOver_62 : decode prog_4_method_11_code 62 = .ok (.getfield 21, 3) := by decide +kernel
theorem gd_Facts_findOver_65 : decode prog_4_method_11_code 65 = .ok (.aload_n 0, 1) := by decide +kernel
theorem gd_Facts_findOver_66 : decode prog_4_method_11_code 66 = .ok (.getfield 27, 3) := by decide +kernel
theorem gd_Facts_findOver_69 : decode prog_4_method_11_code 69 = .ok (.getfield 85, 3) := by decide +kernel
theorem gd_Facts_findOver_72 : decode prog_4_method_11_code 72 = .ok (.iload_n 1, 1) := by decide +kernel
theorem gd_Facts_findOver_73 : decode prog_4_method_11_code 73 = .ok (.iaload, 1) := by decide +kernel
theorem gd_Facts_findOver_74 : decode prog_4_method_11_code 74 = .ok (.dup2, 1) := by decide +kernel
theorem gd_Facts_findOver_75 : decode prog_4_method_11_code 75 = .ok (.iaload, 1) := by decide +kernel
theorem gd_Facts_findOver_76 : decode prog_4_method_11_code 76 = .ok (.iconst 1, 1) := by decide +kernel
theorem gd_Facts_findOver_77 : decode prog_4_method_11_code 77 = .ok (.iload_n 3, 1) := by decide +kernel
theorem gd_Facts_findOver_78 : decode prog_4_method_11_code 78 = .ok (.ishl, 1) := by decide +kernel
theorem gd_Facts_findOver_79 : decode prog_4_method_11_code 79 = .ok (.ior, 1) := by decide +kernel
theorem gd_Facts_findOver_80 : decode prog_4_method_11_code 80 = .ok (.iastore, 1) := by decide +kernel
theorem gd_Facts_findOver_81 : decode prog_4_method_11_code 81 = .ok (.iinc 2 1, 3) := by decide +kernel
theorem gd_Facts_findOver_84 : decode prog_4_method_11_code 84 = .ok (.goto (-61), 3) := by decide +kernel
theorem gd_Facts_findOver_87 : decode prog_4_method_11_code 87 = .ok (.iinc 1 1, 3) := by decide +kernel
theorem gd_Facts_findOver_90 : decode prog_4_method_11_code 90 = .ok (.goto (-80), 3) := by decide +kernel
theorem gd_Facts_findOver_93 : decode prog_4_method_11_code 93 = .ok (.aload_n 0, 1) := by decide +kernel
theorem gd_Facts_findOver_94 : decode prog_4_method_11_code 94 = .ok (.getfield 21, 3) := by decide +kernel
theorem gd_Facts_findOver_97 : decode prog_4_method_11_code 97 = .ok (.aload_n 0, 1) := by decide +kernel
theorem gd_Facts_findOver_98 : decode prog_4_method_11_code 98 = .ok (.getfield 27, 3) := by decide +kernel
theorem gd_Facts_findOver_101 : decode prog_4_method_11_code 101 = .ok (.getfield 73, 3) := by decide +kernel
theorem gd_Facts_findOver_104 : decode prog_4_method_11_code 104 = .ok (.invokestatic 113, 3) := by decide +kernel
theorem gd_Facts_findOver_107 : decode prog_4_method_11_code 107 = .ok (.return_, 1) := by decide +kernel
theorem gd_Facts_closeOver_0 : decode prog_4_method_12_code 0 = .ok (.iconst 0, 1) := by decide +kernel
theorem gd_Facts_closeOver_1 : decode prog_4_method_12_code 1 = .ok (.istore_n 2, 1) := by decide +kernel
theorem gd_Facts_closeOver_2 : decode prog_4_method_12_code 2 = .ok (.iload_n 2, 1) := by decide +kernel
theorem gd_Facts_closeOver_3 : decode prog_4_method_12_code 3 = .ok (.iload_n 1, 1) := by decide +kernel
theorem gd_Facts_closeOver_4 : decode prog_4_method_12_code 4 = .ok (.if_icmp .ge 41, 3) := by decide +kernel
theorem gd_Facts_closeOver_7 : decode prog_4_method_12_code 7 = .ok (.iconst 0, 1) := by decide +kernel
theorem gd_Facts_closeOver_8 : decode prog_4_method_12_code 8 = .ok (.istore_n 3, 1) := by decide +kernel
theorem gd_Facts_closeOver_9 : decode prog_4_method_12_code 9 = .ok (.iload_n 3, 1) := by decide +kernel
theorem gd_Facts_closeOver_10 : decode prog_4_method_12_code 10 = .ok (.iload_n 1, 1) := by decide +kernel
theorem gd_Facts_closeOver_11 : decode prog_4_method_12_code 11 = .ok (.if_icmp .ge 28, 3) := by decide +kernel
theorem gd_Facts_closeOver_14 : decode prog_4_method_12_code 14 = .ok (.aload_n 0, 1) := by decide +kernel
theorem gd_Facts_closeOver_15 : decode prog_4_method_12_code 15 = .ok (.iload_n 3, 1) := by decide +kernel
theorem gd_Facts_closeOver_16 : decode prog_4_method_12_code 16 = .ok (.iaload, 1) := by decide +kernel
theorem gd_Facts_closeOver_17 : decode prog_4_method_12_code 17 = .ok (.iload_n 2, 1) := by decide +kernel
theorem gd_Facts_closeOver_18 : decode prog_4_method_12_code 18 = .ok (.ishr, 1) := by decide +kernel
theorem gd_Facts_closeOver_19 : decode prog_4_method_12_code 19 = .ok (.iconst 1, 1) := by decide +kernel
theorem gd_Facts_closeOver_20 : decode prog_4_method_12_code 20 = .ok (.iand, 1) := by decide +kernel
theorem gd_Facts_closeOver_21 : decode prog_4_method_12_code 21 = .ok (.ifCond .eq 12, 3) := by decide +kernel
theorem gd_Facts_closeOver_24 : decode prog_4_method_12_code 24 = .ok (.aload_n 0, 1) := by decide +kernel
theorem gd_Facts_closeOver_25 : decode prog_4_method_12_code 25 = .ok (.iload_n 3, 1) := by decide +kernel
theorem gd_Facts_closeOver_26 : decode prog_4_method_12_code 26 = .ok (.dup2, 1) := by decide +kernel
theorem gd_Facts_closeOver_27 : decode prog_4_method_12_code 27 = .ok (.iaload, 1) := by decide +kernel
theorem gd_Facts_closeOver_28 : decode prog_4_method_12_code 28 = .ok (.aload_n 0, 1) := by decide +kernel
theorem gd_Facts_closeOver_29 : decode prog_4_method_12_code 29 = .ok (.iload_n 2, 1) := by decide +kernel
theorem gd_Facts_closeOver_30 : decode prog_4_method_12_code 30 = .ok (.iaload, 1) := by decide +kernel
theorem gd_Facts_closeOver_31 : decode prog_4_method_12_code 31 = .ok (.ior, 1) := by decide +kernel
theorem gd_Facts_closeOver_32 : decode prog_4_method_12_code 32 = .ok (.iastore, 1) := by decide +kernel
theorem gd_Facts_closeOver_33 : decode prog_4_method_12_code 33 = .ok (.iinc 3 1, 3) := by decide +kernel
theorem gd_Facts_closeOver_36 : decode prog_4_method_12_code 36 = .ok (.goto (-27), 3) := by decide +kernel
theorem gd_Facts_closeOver_39 : decode prog_4_method_12_code 39 = .ok (.iinc 2 1, 3) := by decide +kernel
theorem gd_Facts_closeOver_42 : decode prog_4_method_12_code 42 = .ok (.goto (-40), 3) := by decide +kernel
theorem gd_Facts_closeOver_45 : decode prog_4_method_12_code 45 = .ok (.return_, 1) := by decide +kernel
theorem gd_Facts_findFirst_0 : decode prog_4_method_13_code 0 = .ok (.aload_n 0, 1) := by decide +kernel
theorem gd_Facts_findFirst_1 : decode prog_4_method_13_code 1 = .ok (.getfield 15, 3) := by decide +kernel
theorem gd_Facts_findFirst_4 : decode prog_4_method_13_code 4 = .ok (.iconst 0, 1) := by decide +kernel
theorem gd_Facts_findFirst_5 : decode prog_4_method_13_code 5 = .ok (.invokestatic 96, 3) := by decide +kernel
theorem gd_Facts_findFirst_8 : decode prog_4_method_13_code 8 = .ok (.iconst 0, 1) := by decide +kernel
theorem gd_Facts_findFirst_9 : decode prog_4_method_13_code 9 = .ok (.istore_n 1, 1) := by decide +kernel
theorem gd_Facts_findFirst_10 : decode prog_4_method_13_code 10 = .ok (.iload_n 1, 1) := by decide +kernel
theorem gd_Facts_findFirst_11 : decode prog_4_method_13_code 11 = .ok (.aload_n 0, 1) := by decide +kernel
theorem gd_Facts_findFirst_12 : decode prog_4_method_13_code 12 = .ok (.getfield 27, 3) := by decide +kernel
theorem gd_Facts_findFirst_15 : decode prog_4_method_13_code 15 = .ok (.getfield 73, 3) := by decide +kernel
theorem gd_Facts_findFirst_18 : decode prog_4_method_13_code 18 = .ok (.if_icmp .ge 59, 3) := by decide +kernel
theorem gd_Facts_findFirst_21 : decode prog_4_method_13_code 21 = .ok (.iconst 0, 1) := by decide +kernel
theorem gd_Facts_findFirst_22 : decode prog_4_method_13_code 22 = .ok (.istore_n 2, 1) := by decide +kernel
theorem gd_Facts_findFirst_23 : decode prog_4_method_13_code 23 = .ok (.iload_n 2, 1) := by decide +kernel
theorem gd_Facts_findFirst_24 : decode prog_4_method_13_code 24 = .ok (.aload_n 0, 1) := by decide +kernel
theorem gd_Facts_findFirst_25 : decode prog_4_method_13_code 25 = .ok (.getfield 27, 3) := by decide +kernel
theorem gd_Facts_findFirst_28 : decode prog_4_method_13_code 28 = .ok (.getfield 78, 3) := by decide +kernel
theorem gd_Facts_findFirst_31 : decode prog_4_method_13_code 31 = .ok (.if_icmp .ge 40, 3) := by decide +kernel
theorem gd_Facts_findFirst_34 : decode prog_4_method_13_code 34 = .ok (.aload_n 0, 1) := by decide +kernel
theorem gd_Facts_findFirst_35 : decode prog_4_method_13_code 35 = .ok (.iload_n 2, 1) := by decide +kernel
theorem gd_Facts_findFirst_36 : decode prog_4_method_13_code 36 = .ok (.invokevirtual 116, 3) := by decide +kernel
theorem gd_Facts_findFirst_39 : decode prog_4_method_13_code 39 = .ok (.ifCond .eq 26, 3) := by decide +kernel
theorem gd_Facts_findFirst_42 : decode prog_4_method_13_code 42 = .ok (.aload_n 0, 1) := by decide +kernel
theorem gd_Facts_findFirst_43 : decode prog_4_method_13_code 43 = .ok (.getfield 15, 3) := by decide +kernel
theorem gd_Facts_findFirst_46 : decode prog_4_method_13_code 46 = .ok (.aload_n 0, 1) := by decide +kernel
theorem gd_Facts_findFirst_47 : decode prog_4_method_13_code 47 = .ok (.getfield 27, 3) := by decide +kernel
theorem gd_Facts_findFirst_50 : decode prog_4_method_13_code 50 = .ok (.getfield 85, 3) := by decide +kernel
theorem gd_Facts_findFirst_53 : decode prog_4_method_13_code 53 = .ok (.iload_n 2, 1) := by decide +kernel
theorem gd_Facts_findFirst_54 : decode prog_4_method_13_code 54 = .ok (.iaload, 1) := by decide +kernel
theorem gd_Facts_findFirst_55 : decode prog_4_method_13_code 55 = .ok (.dup2, 1) := by decide +kernel
theorem gd_Facts_findFirst_56 : decode prog_4_method_13_code 56 = .ok (.iaload, 1) := by decide +kernel
theorem gd_Facts_findFirst_57 : decode prog_4_method_13_code 57 = .ok (.aload_n 0, 1) := by decide +kernel
theorem gd_Facts_findFirst_58 : decode prog_4_method_13_code 58 = .ok (.iload_n 2, 1) := by decide +kernel
theorem gd_Facts_findFirst_59 : decode prog_4_method_13_code 59 = .ok (.iconst 0, 1) := by decide +kernel
theorem gd_Facts_findFirst_60 : decode prog_4_method_13_code 60 = .ok (.invokevirtual 120, 3) := by decide +kernel
theorem gd_Facts_findFirst_63 : decode prog_4_method_13_code 63 = .ok (.ior, 1) := by decide +kernel
theorem gd_Facts_findFirst_64 : decode prog_4_method_13_code 64 = .ok (.iastore, 1) := by decide +kernel
theorem gd_Facts_findFirst_65 : decode prog_4_method_13_code 65 = .ok (.iinc 2 1, 3) := by decide +kernel
theorem gd_Facts_findFirst_68 : decode prog_4_method_13_code 68 = .ok (.goto (-45), 3) := by decide +kernel
theorem gd_Facts_findFirst_71 : decode prog_4_method_13_code 71 = .ok (.iinc 1 1, 3) := by decide +kernel
theorem gd_Facts_findFirst_74 : decode prog_4_method_13_code 74 = .ok (.goto (-64), 3) := by decide +kernel
theorem gd_Facts_findFirst_77 : decode prog_4_method_13_code 77 = .ok (.return_, 1) := by decide +kernel
theorem gd_Facts_isUsefulRule_0 : decode prog_4_method_3_code 0 = .ok (.aload_n 0, 1) := by decide +kernel
theorem gd_Facts_isUsefulRule_1 : decode prog_4_method_3_code 1 = .ok (.getfield 52, 3) := by decide +kernel
theorem gd_Facts_isUsefulRule_4 : decode prog_4_method_3_code 4 = .ok (.iload_n 1, 1) := by decide +kernel
theorem gd_Facts_isUsefulRule_5 : decode prog_4_method_3_code 5 = .ok (.ishr, 1) := by decide +kernel
theorem gd_Facts_isUsefulRule_6 : decode prog_4_method_3_code 6 = .ok (.iconst 1, 1) := by decide +kernel
theorem gd_Facts_isUsefulRule_7 : decode prog_4_method_3_code 7 = .ok (.iand, 1) := by decide +kernel
theorem gd_Facts_isUsefulRule_8 : decode prog_4_method_3_code 8 = .ok (.ifCond .eq 7, 3) := by decide +kernel
theorem gd_Facts_isUsefulRule_11 : decode prog_4_method_3_code 11 = .ok (.iconst 1, 1) := by decide +kernel
theorem gd_Facts_isUsefulRule_12 : decode prog_4_method_3_code 12 = .ok (.goto 4, 3) := by decide +kernel
theorem gd_Facts_isUsefulRule_15 : decode prog_4_method_3_code 15 = .ok (.iconst 0, 1) := by decide +kernel
theorem gd_Facts_isUsefulRule_16 : decode prog_4_method_3_code 16 = .ok (.ireturn, 1) := by decide +kernel
theorem gd_Facts_firstOfRow_0 : decode prog_4_method_14_code 0 = .ok (.iconst 0, 1) := by decide +kernel
theorem gd_Facts_firstOfRow_1 : decode prog_4_method_14_code 1 = .ok (.istore_n 3, 1) := by decide +kernel
theorem gd_Facts_firstOfRow_2 : decode prog_4_method_14_code 2 = .ok (.iload_n 2, 1) := by decide +kernel
theorem gd_Facts_firstOfRow_3 : decode prog_4_method_14_code 3 = .ok (.istore 4, 2) := by decide +kernel
theorem gd_Facts_firstOfRow_5 : decode prog_4_method_14_code 5 = .ok (.iload 4, 2) := by decide +kernel
theorem gd_Facts_firstOfRow_7 : decode prog_4_method_14_code 7 = .ok (.aload_n 0, 1) := by decide +kernel
theorem gd_Facts_firstOfRow_8 : decode prog_4_method_14_code 8 = .ok (.getfield 27, 3) := by decide +kernel
theorem gd_Facts_firstOfRow_11 : decode prog_4_method_14_code 11 = .ok (.getfield 88, 3) := by decide +kernel
theorem gd_Facts_firstOfRow_14 : decode prog_4_method_14_code 14 = .ok (.iload_n 1, 1) := by decide +kernel
theorem gd_Facts_firstOfRow_15 : decode prog_4_method_14_code 15 = .ok (.iaload, 1) := by decide +kernel
theorem gd_Facts_firstOfRow_16 : decode prog_4_method_14_code 16 = .ok (.if_icmp .ge 71, 3) := by decide +kernel
theorem gd_Facts_firstOfRow_19 : decode prog_4_method_14_code 19 = .ok (.aload_n 0, 1) := by decide +kernel
theorem gd_Facts_firstOfRow_20 : decode prog_4_method_14_code 20 = .ok (.getfield 27, 3) := by decide +kernel
theorem gd_Facts_firstOfRow_23 : decode prog_4_method_14_code 23 = .ok (.iload_n 1, 1) := by decide +kernel
theorem gd_Facts_firstOfRow_24 : decode prog_4_method_14_code 24 = .ok (.iload 4, 2) := by decide +kernel
theorem gd_Facts_firstOfRow_26 : decode prog_4_method_14_code 26 = .ok (.invokevirtual 91, 3) := by decide +kernel
theorem gd_Facts_firstOfRow_29 : decode prog_4_method_14_code 29 = .ok (.istore 5, 2) := by decide +kernel
theorem gd_Facts_firstOfRow_31 : decode prog_4_method_14_code 31 = .ok (.iload_n 3, 1) := by decide +kernel
theorem gd_Facts_firstOfRow_32 : decode prog_4_method_14_code 32 = .ok (.iload 5, 2) := by decide +kernel
theorem gd_Facts_firstOfRow_34 : decode prog_4_method_14_code 34 = .ok (.iconst (-1), 1) := by decide +kernel
theorem gd_Facts_firstOfRow_35 : decode prog_4_method_14_code 35 = .ok (.if_icmp .ne 16, 3) := by decide +kernel
theorem gd_Facts_firstOfRow_38 : decode prog_4_method_14_code 38 = .ok (.aload_n 0, 1) := by decide +kernel
theorem gd_Facts_firstOfRow_39 : decode prog_4_method_14_code 39 = .ok (.getfield 27, 3) := by decide +kernel
theorem gd_Facts_firstOfRow_42 : decode prog_4_method_14_code 42 = .ok (.iload_n 1, 1) := by decide +kernel
theorem gd_Facts_firstOfRow_43 : decode prog_4_method_14_code 43 = .ok (.iload 4, 2) := by decide +kernel
theorem gd_Facts_firstOfRow_45 : decode prog_4_method_14_code 45 = .ok (.invokevirtual 123, 3) := by decide +kernel
theorem gd_Facts_firstOfRow_48 : decode prog_4_method_14_code 48 = .ok (.goto 10, 3) := by decide +kernel
theorem gd_Facts_firstOfRow_51 : decode prog_4_method_14_code 51 = .ok (.aload_n 0, 1) := by decide +kernel
theorem gd_Facts_firstOfRow_52 : decode prog_4_method_14_code 52 = .ok (.getfield 15, 3) := by decide +kernel
theorem gd_Facts_firstOfRow_55 : decode prog_4_method_14_code 55 = .ok (.iload 5, 2) := by decide +kernel
theorem gd_Facts_firstOfRow_57 : decode prog_4_method_14_code 57 = .ok (.iaload, 1) := by decide +kernel
theorem gd_Facts_firstOfRow_58 : decode prog_4_method_14_code 58 = .ok (.ior, 1) := by decide +kernel
theorem gd_Facts_firstOfRow_59 : decode prog_4_method_14_code 59 = .ok (.istore_n 3, 1) := by decide +kernel
theorem gd_Facts_firstOfRow_60 : decode prog_4_method_14_code 60 = .ok (.iload 5, 2) := by decide +kernel
theorem gd_Facts_firstOfRow_62 : decode prog_4_method_14_code 62 = .ok (.iconst (-1), 1) := by decide +kernel
theorem gd_Facts_firstOfRow_63 : decode prog_4_method_14_code 63 = .ok (.if_icmp .eq 24, 3) := by decide +kernel
theorem gd_Facts_firstOfRow_66 : decode prog_4_method_14_code 66 = .ok (.aload_n 0, 1) := by decide +kernel
theorem gd_Facts_firstOfRow_67 : decode prog_4_method_14_code 67 = .ok (.getfield 70, 3) := by decide +kernel
theorem gd_Facts_firstOfRow_70 : decode prog_4_method_14_code 70 = .ok (.iload 5, 2) := by decide +kernel
theorem gd_Facts_firstOfRow_72 : decode prog_4_method_14_code 72 = .ok (.ishr, 1) := by decide +kernel
theorem gd_Facts_firstOfRow_73 : decode prog_4_method_14_code 73 = .ok (.iconst 1, 1) := by decide +kernel
theorem gd_Facts_firstOfRow_74 : decode prog_4_method_14_code 74 = .ok (.iand, 1) := by decide +kernel
theorem gd_Facts_firstOfRow_75 : decode prog_4_method_14_code 75 = .ok (.ifCond .ne 6, 3) := by decide +kernel
theorem gd_Facts_firstOfRow_78 : decode prog_4_method_14_code 78 = .ok (.goto 9, 3) := by decide +kernel
theorem gd_Facts_firstOfRow_81 : decode prog_4_method_14_code 81 = .ok (.iinc 4 1, 3) := by decide +kernel
theorem gd_Facts_firstOfRow_84 : decode prog_4_method_14_code 84 = .ok (.goto (-79), 3) := by decide +kernel
theorem gd_Facts_firstOfRow_87 : decode prog_4_method_14_code 87 = .ok (.iload_n 3, 1) := by decide +kernel
theorem gd_Facts_firstOfRow_88 : decode prog_4_method_14_code 88 = .ok (.ireturn, 1) := by decide +kernel
theorem gd_Facts_findFollow_0 : decode prog_4_method_15_code 0 = .ok (.aload_n 0, 1) := by decide +kernel
theorem gd_Facts_findFollow_1 : decode prog_4_method_15_code 1 = .ok (.getfield 18, 3) := by decide +kernel
theorem gd_Facts_findFollow_4 : decode prog_4_method_15_code 4 = .ok (.iconst 0, 1) := by decide +kernel
theorem gd_Facts_findFollow_5 : decode prog_4_method_15_code 5 = .ok (.invokestatic 96, 3) := by decide +kernel
theorem gd_Facts_findFollow_8 : decode prog_4_method_15_code 8 = .ok (.aload_n 0, 1) := by decide +kernel
theorem gd_Facts_findFollow_9 : decode prog_4_method_15_code 9 = .ok (.getfield 18, 3) := by decide +kernel
theorem gd_Facts_findFollow_12 : decode prog_4_method_15_code 12 = .ok (.iconst 0, 1) := by decide +kernel
theorem gd_Facts_findFollow_13 : decode prog_4_method_15_code 13 = .ok (.aload_n 0, 1) := by decide +kernel
theorem gd_Facts_findFollow_14 : decode prog_4_method_15_code 14 = .ok (.getfield 55, 3) := by decide +kernel
theorem gd_Facts_findFollow_17 : decode prog_4_method_15_code 17 = .ok (.iconst 1, 1) := by decide +kernel
theorem gd_Facts_findFollow_18 : decode prog_4_method_15_code 18 = .ok (.iand, 1) := by decide +kernel
theorem gd_Facts_findFollow_19 : decode prog_4_method_15_code 19 = .ok (.bipush 26, 2) := by decide +kernel
theorem gd_Facts_findFollow_21 : decode prog_4_method_15_code 21 = .ok (.ishl, 1) := by decide +kernel
theorem gd_Facts_findFollow_22 : decode prog_4_method_15_code 22 = .ok (.iastore, 1) := by decide +kernel
theorem gd_Facts_findFollow_23 : decode prog_4_method_15_code 23 = .ok (.iconst 0, 1) := by decide +kernel
theorem gd_Facts_findFollow_24 : decode prog_4_method_15_code 24 = .ok (.istore_n 1, 1) := by decide +kernel
theorem gd_Facts_findFollow_25 : decode prog_4_method_15_code 25 = .ok (.iload_n 1, 1) := by decide +kernel
theorem gd_Facts_findFollow_26 : decode prog_4_method_15_code 26 = .ok (.aload_n 0, 1) := by decide +kernel
theorem gd_Facts_findFollow_27 : decode prog_4_method_15_code 27 = .ok (.getfield 27, 3) := by decide +kernel
theorem gd_Facts_findFollow_30 : decode prog_4_method_15_code 30 = .ok (.getfield 73, 3) := by decide +kernel
theorem gd_Facts_findFollow_33 : decode prog_4_method_15_code 33 = .ok (.if_icmp .ge 60, 3) := by decide +kernel
theorem gd_Facts_findFollow_36 : decode prog_4_method_15_code 36 = .ok (.iconst 0, 1) := by decide +kernel
theorem gd_Facts_findFollow_37 : decode prog_4_method_15_code 37 = .ok (.istore_n 2, 1) := by decide +kernel
theorem gd_Facts_findFollow_38 : decode prog_4_method_15_code 38 = .ok (.iload_n 2, 1) := by decide +kernel
theorem gd_Facts_findFollow_39 : decode prog_4_method_15_code 39 = .ok (.aload_n 0, 1) := by decide +kernel
theorem gd_Facts_findFollow_40 : decode prog_4_method_15_code 40 = .ok (.getfield 27, 3) := by decide +kernel
theorem gd_Facts_findFollow_43 : decode prog_4_method_15_code 43 = .ok (.getfield 78, 3) := by decide +kernel
theorem gd_Facts_findFollow_46 : decode prog_4_method_15_code 46 = .ok (.if_icmp .ge 41, 3) := by decide +kernel
theorem gd_Facts_findFollow_49 : decode prog_4_method_15_code 49 = .ok (.aload_n 0, 1) := by decide +kernel
theorem gd_Facts_findFollow_50 : decode prog_4_method_15_code 50 = .ok (.iload_n 2, 1) := by decide +kernel
theorem gd_Facts_findFollow_51 : decode prog_4_method_15_code 51 = .ok (.invokevirtual 116, 3) := by decide +kernel
theorem gd_Facts_findFollow_54 : decode prog_4_method_15_code 54 = .ok (.ifCond .eq 27, 3) := by decide +kernel
theorem gd_Facts_findFollow_57 : decode prog_4_method_15_code 57 = .ok (.aload_n 0, 1) := by decide +kernel
theorem gd_Facts_findFollow_58 : decode prog_4_method_15_code 58 = .ok (.getfield 55, 3) := by decide +kernel
theorem gd_Facts_findFollow_61 : decode prog_4_method_15_code 61 = .ok (.aload_n 0, 1) := by decide +kernel
theorem gd_Facts_findFollow_62 : decode prog_4_method_15_code 62 = .ok (.getfield 27, 3) := by decide +kernel
theorem gd_Facts_findFollow_65 : decode prog_4_method_15_code 65 = .ok (.getfield 85, 3) := by decide +kernel
theorem gd_Facts_findFollow_68 : decode prog_4_method_15_code 68 = .ok (.iload_n 2, 1) := by decide +kernel
theorem gd_Facts_findFollow_69 : decode prog_4_method_15_code 69 = .ok (.iaload, 1) := by decide +kernel
theorem gd_Facts_findFollow_70 : decode prog_4_method_15_code 70 = .ok (.ishr, 1) := by decide +kernel
theorem gd_Facts_findFollow_71 : decode prog_4_method_15_code 71 = .ok (.iconst 1, 1) := by decide +kernel
theorem gd_Facts_findFollow_72 : decode prog_4_method_15_code 72 = .ok (.iand, 1) := by decide +kernel
theorem gd_Facts_findFollow_73 : decode prog_4_method_15_code 73 = .ok (.ifCond .eq 8, 3) := by decide +kernel
theorem gd_Facts_findFollow_76 : decode prog_4_method_15_code 76 = .ok (.aload_n 0, 1) := by decide +kernel
theorem gd_Facts_findFollow_77 : decode prog_4_method_15_code 77 = .ok (.iload_n 2, 1) := by decide +kernel
theorem gd_Facts_findFollow_78 : decode prog_4_method_15_code 78 = .ok (.invokevirtual 126, 3) := by decide +kernel
theorem gd_Facts_findFollow_81 : decode prog_4_method_15_code 81 = .ok (.iinc 2 1, 3) := by decide +kernel
theorem gd_Facts_findFollow_84 : decode prog_4_method_15_code 84 = .ok (.goto (-46), 3) := by decide +kernel
theorem gd_Facts_findFollow_87 : decode prog_4_method_15_code 87 = .ok (.iinc 1 1, 3) := by decide +kernel
theorem gd_Facts_findFollow_90 : decode prog_4_method_15_code 90 = .ok (.goto (-65), 3) := by decide +kernel
theorem gd_Facts_findFollow_93 : decode prog_4_method_15_code 93 = .ok (.return_, 1) := by decide +kernel
theorem gd_Facts_followInRow_0 : decode prog_4_method_16_code 0 = .ok (.iconst 0, 1) := by decide +kernel
theorem gd_Facts_followInRow_1 : decode prog_4_method_16_code 1 = .ok (.istore_n 2, 1) := by decide +kernel
theorem gd_Facts_followInRow_2 : decode prog_4_method_16_code 2 = .ok (.iload_n 2, 1) := by decide +kernel
theorem gd_Facts_followInRow_3 : decode prog_4_method_16_code 3 = .ok (.aload_n 0, 1) := by decide +kernel
theorem gd_Facts_followInRow_4 : decode prog_4_method_16_code 4 = .ok (.getfield 27, 3) := by decide +kernel
theorem gd_Facts_followInRow_7 : decode prog_4_method_16_code 7 = .ok (.getfield 88, 3) := by decide +kernel
theorem gd_Facts_followInRow_10 : decode prog_4_method_16_code 10 = .ok (.iload_n 1, 1) := by decide +kernel
theorem gd_Facts_followInRow_11 : decode prog_4_method_16_code 11 = .ok (.iaload, 1) := by decide +kernel
theorem gd_Facts_followInRow_12 : decode prog_4_method_16_code 12 = .ok (.if_icmp .ge 76, 3) := by decide +kernel
theorem gd_Facts_followInRow_15 : decode prog_4_method_16_code 15 = .ok (.aload_n 0, 1) := by decide +kernel
theorem gd_Facts_followInRow_16 : decode prog_4_method_16_code 16 = .ok (.getfield 27, 3) := by decide +kernel
theorem gd_Facts_followInRow_19 : decode prog_4_method_16_code 19 = .ok (.iload_n 1, 1) := by decide +kernel
theorem gd_Facts_followInRow_20 : decode prog_4_method_16_code 20 = .ok (.iload_n 2, 1) := by decide +kernel
theorem gd_Facts_followInRow_21 : decode prog_4_method_16_code 21 = .ok (.invokevirtual 91, 3) := by decide +kernel
theorem gd_Facts_followInRow_24 : decode prog_4_method_16_code 24 = .ok (.istore_n 3, 1) := by decide +kernel
theorem gd_Facts_followInRow_25 : decode prog_4_method_16_code 25 = .ok (.iload_n 3, 1) := by decide +kernel
theorem gd_Facts_followInRow_26 : decode prog_4_method_16_code 26 = .ok (.iconst (-1), 1) := by decide +kernel
theorem gd_Facts_followInRow_27 : decode prog_4_method_16_code 27 = .ok (.if_icmp .eq 55, 3) := by decide +kernel
theorem gd_Facts_followInRow_30 : decode prog_4_method_16_code 30 = .ok (.aload_n 0, 1) := by decide +kernel
theorem gd_Facts_followInRow_31 : decode prog_4_method_16_code 31 = .ok (.getfield 18, 3) := by decide +kernel
theorem gd_Facts_followInRow_34 : decode prog_4_method_16_code 34 = .ok (.iload_n 3, 1) := by decide +kernel
theorem gd_Facts_followInRow_35 : decode prog_4_method_16_code 35 = .ok (.dup2, 1) := by decide +kernel
theorem gd_Facts_followInRow_36 : decode prog_4_method_16_code 36 = .ok (.iaload, 1) := by decide +kernel
theorem gd_Facts_followInRow_37 : decode prog_4_method_16_code 37 = .ok (.aload_n 0, 1) := by decide +kernel
theorem gd_Facts_followInRow_38 : decode prog_4_method_16_code 38 = .ok (.iload_n 1, 1) := by decide +kernel
theorem gd_Facts_followInRow_39 : decode prog_4_method_16_code 39 = .ok (.iload_n 2, 1) := by decide +kernel
theorem gd_Facts_followInRow_40 : decode prog_4_method_16_code 40 = .ok (.iconst 1, 1) := by decide +kernel
theorem gd_Facts_followInRow_41 : decode prog_4_method_16_code 41 = .ok (.iadd, 1) := by decide +kernel
theorem gd_Facts_followInRow_42 : decode prog_4_method_16_code 42 = .ok (.invokevirtual 120, 3) := by decide +kernel
theorem gd_Facts_followInRow_45 : decode prog_4_method_16_code 45 = .ok (.ior, 1) := by decide +kernel
theorem gd_Facts_followInRow_46 : decode prog_4_method_16_code 46 = .ok (.iastore, 1) := by decide +kernel
theorem gd_Facts_followInRow_47 : decode prog_4_method_16_code 47 = .ok (.aload_n 0, 1) := by decide +kernel
theorem gd_Facts_followInRow_48 : decode prog_4_method_16_code 48 = .ok (.iload_n 1, 1) := by decide +kernel
theorem gd_Facts_followInRow_49 : decode prog_4_method_16_code 49 = .ok (.iload_n 2, 1) := by decide +kernel
theorem gd_Facts_followInRow_50 : decode prog_4_method_16_code 50 = .ok (.iconst 1, 1) := by decide +kernel
theorem gd_Facts_followInRow_51 : decode prog_4_method_16_code 51 = .ok (.iadd, 1) := by decide +kernel
theorem gd_Facts_followInRow_52 : decode prog_4_method_16_code 52 = .ok (.iconst (-1), 1) := by decide +kernel
theorem gd_Facts_followInRow_53 : decode prog_4_method_16_code 53 = .ok (.invokevirtual 81, 3) := by decide +kernel
theorem gd_Facts_followInRow_56 : decode prog_4_method_16_code 56 = .ok (.ifCond .eq 26, 3) := by decide +kernel
theorem gd_Facts_followInRow_59 : decode prog_4_method_16_code 59 = .ok (.aload_n 0, 1) := by decide +kernel
theorem gd_Facts_followInRow_60 : decode prog_4_method_16_code 60 = .ok (.getfield 18, 3) := by decide +kernel
theorem gd_Facts_followInRow_63 : decode prog_4_method_16_code 63 = .ok (.iload_n 3, 1) := by decide +kernel
theorem gd_Facts_followInRow_64 : decode prog_4_method_16_code 64 = .ok (.dup2, 1) := by decide +kernel
theorem gd_Facts_followInRow_65 : decode prog_4_method_16_code 65 = .ok (.iaload, 1) := by decide +kernel
theorem gd_Facts_followInRow_66 : decode prog_4_method_16_code 66 = .ok (.aload_n 0, 1) := by decide +kernel
theorem gd_Facts_followInRow_67 : decode prog_4_method_16_code 67 = .ok (.getfield 18, 3) := by decide +kernel
theorem gd_Facts_followInRow_70 : decode prog_4_method_16_code 70 = .ok (.aload_n 0, 1) := by decide +kernel
theorem gd_Facts_followInRow_71 : decode prog_4_method_16_code 71 = .ok (.getfield 27, 3) := by decide +kernel
theorem gd_Facts_followInRow_74 : decode prog_4_method_16_code 74 = .ok (.getfield 85, 3) := by decide +kernel
theorem gd_Facts_followInRow_77 : decode prog_4_method_16_code 77 = .ok (.iload_n 1, 1) := by decide +kernel
theorem gd_Facts_followInRow_78 : decode prog_4_method_16_code 78 = .ok (.iaload, 1) := by decide +kernel
theorem gd_Facts_followInRow_79 : decode prog_4_method_16_code 79 = .ok (.iaload, 1) := by decide +kernel
theorem gd_Facts_followInRow_80 : decode prog_4_method_16_code 80 = .ok (.ior, 1) := by decide +kernel
theorem gd_Facts_followInRow_81 : decode prog_4_method_16_code 81 = .ok (.iastore, 1) := by decide +kernel
theorem gd_Facts_followInRow_82 : decode prog_4_method_16_code 82 = .ok (.iinc 2 1, 3) := by decide +kernel
theorem gd_Facts_followInRow_85 : decode prog_4_method_16_code 85 = .ok (.goto (-83), 3) := by decide +kernel
theorem gd_Facts_followInRow_88 : decode prog_4_method_16_code 88 = .ok (.return_, 1) := by decide +kernel
theorem gd_Facts_findTable_0 : decode prog_4_method_17_code 0 = .ok (.iconst 0, 1) := by decide +kernel
theorem gd_Facts_findTable_1 : decode prog_4_method_17_code 1 = .ok (.istore_n 1, 1) := by decide +kernel
theorem gd_Facts_findTable_2 : decode prog_4_method_17_code 2 = .ok (.iload_n 1, 1) := by decide +kernel
theorem gd_Facts_findTable_3 : decode prog_4_method_17_code 3 = .ok (.aload_n 0, 1) := by decide +kernel
theorem gd_Facts_findTable_4 : decode prog_4_method_17_code 4 = .ok (.getfield 27, 3) := by decide +kernel
theorem gd_Facts_findTable_7 : decode prog_4_method_17_code 7 = .ok (.getfield 78, 3) := by decide +kernel
theorem gd_Facts_findTable_10 : decode prog_4_method_17_code 10 = .ok (.if_icmp .ge 78, 3) := by decide +kernel
theorem gd_Facts_findTable_13 : decode prog_4_method_17_code 13 = .ok (.aload_n 0, 1) := by decide +kernel
theorem gd_Facts_findTable_14 : decode prog_4_method_17_code 14 = .ok (.getfield 27, 3) := by decide +kernel
theorem gd_Facts_findTable_17 : decode prog_4_method_17_code 17 = .ok (.getfield 85, 3) := by decide +kernel
theorem gd_Facts_findTable_20 : decode prog_4_method_17_code 20 = .ok (.iload_n 1, 1) := by decide +kernel
theorem gd_Facts_findTable_21 : decode prog_4_method_17_code 21 = .ok (.iaload, 1) := by decide +kernel
theorem gd_Facts_findTable_22 : decode prog_4_method_17_code 22 = .ok (.istore_n 2, 1) := by decide +kernel
theorem gd_Facts_findTable_23 : decode prog_4_method_17_code 23 = .ok (.aload_n 0, 1) := by decide +kernel
theorem gd_Facts_findTable_24 : decode prog_4_method_17_code 24 = .ok (.getfield 24, 3) := by decide +kernel
theorem gd_Facts_findTable_27 : decode prog_4_method_17_code 27 = .ok (.iload_n 1, 1) := by decide +kernel
theorem gd_Facts_findTable_28 : decode prog_4_method_17_code 28 = .ok (.iconst 0, 1) := by decide +kernel
theorem gd_Facts_findTable_29 : decode prog_4_method_17_code 29 = .ok (.iastore, 1) := by decide +kernel
theorem gd_Facts_findTable_30 : decode prog_4_method_17_code 30 = .ok (.aload_n 0, 1) := by decide +kernel
theorem gd_Facts_findTable_31 : decode prog_4_method_17_code 31 = .ok (.iload_n 1, 1) := by decide +kernel
theorem gd_Facts_findTable_32 : decode prog_4_method_17_code 32 = .ok (.invokevirtual 116, 3) := by decide +kernel
theorem gd_Facts_findTable_35 : decode prog_4_method_17_code 35 = .ok (.ifCond .eq 47, 3) := by decide +kernel
theorem gd_Facts_findTable_38 : decode prog_4_method_17_code 38 = .ok (.aload_n 0, 1) := by decide +kernel
theorem gd_Facts_findTable_39 : decode prog_4_method_17_code 39 = .ok (.getfield 55, 3) := by decide +kernel
theorem gd_Facts_findTable_42 : decode prog_4_method_17_code 42 = .ok (.iload_n 2, 1) := by decide +kernel
theorem gd_Facts_findTable_43 : decode prog_4_method_17_code 43 = .ok (.ishr, 1) := by decide +kernel
theorem gd_Facts_findTable_44 : decode prog_4_method_17_code 44 = .ok (.iconst 1, 1) := by decide +kernel
theorem gd_Facts_findTable_45 : decode prog_4_method_17_code 45 = .ok (.iand, 1) := by decide +kernel
theorem gd_Facts_findTable_46 : decode prog_4_method_17_code 46 = .ok (.ifCond .eq 36, 3) := by decide +kernel
theorem gd_Facts_findTable_49 : decode prog_4_method_17_code 49 = .ok (.aload_n 0, 1) := by decide +kernel
theorem gd_Facts_findTable_50 : decode prog_4_method_17_code 50 = .ok (.getfield 24, 3) := by decide +kernel
theorem gd_Facts_findTable_53 : decode prog_4_method_17_code 53 = .ok (.iload_n 1, 1) := by decide +kernel
theorem gd_Facts_findTable_54 : decode prog_4_method_17_code 54 = .ok (.aload_n 0, 1) := by decide +kernel
theorem gd_Facts_findTable_55 : decode prog_4_method_17_code 55 = .ok (.iload_n 1, 1) := by decide +kernel
theorem gd_Facts_findTable_56 : decode prog_4_method_17_code 56 = .ok (.iconst 0, 1) := by decide +kernel
theorem gd_Facts_findTable_57 : decode prog_4_method_17_code 57 = .ok (.invokevirtual 120, 3) := by decide +kernel
theorem gd_Facts_findTable_60 : decode prog_4_method_17_code 60 = .ok (.aload_n 0, 1) := by decide +kernel
theorem gd_Facts_findTable_61 : decode prog_4_method_17_code 61 = .ok (.iload_n 1, 1) := by decide +kernel
theorem gd_Facts_findTable_62 : decode prog_4_method_17_code 62 = .ok (.iconst 0, 1) := by decide +kernel
theorem gd_Facts_findTable_63 : decode prog_4_method_17_code 63 = .ok (.iconst (-1), 1) := by decide +kernel
theorem gd_Facts_findTable_64 : decode prog_4_method_17_code 64 = .ok (.invokevirtual 81, 3) := by decide +kernel
theorem gd_Facts_findTable_67 : decode prog_4_method_17_code 67 = .ok (.ifCond .eq 12, 3) := by decide +kernel
theorem gd_Facts_findTable_70 : decode prog_4_method_17_code 70 = .ok (.aload_n 0, 1) := by decide +kernel
theorem gd_Facts_findTable_71 : decode prog_4_method_17_code 71 = .ok (.getfield 18, 3) := by decide +kernel
theorem gd_Facts_findTable_74 : decode prog_4_method_17_code 74 = .ok (.iload_n 2, 1) := by decide +kernel
theorem gd_Facts_findTable_75 : decode prog_4_method_17_code 75 = .ok (.iaload, 1) := by decide +kernel
theorem gd_Facts_findTable_76 : decode prog_4_method_17_code 76 = .ok (.goto 4, 3) := by decide +kernel
theorem gd_Facts_findTable_79 : decode prog_4_method_17_code 79 = .ok (.iconst 0, 1) := by decide +kernel
theorem gd_Facts_findTable_80 : decode prog_4_method_17_code 80 = .ok (.ior, 1) := by decide +kernel
theorem gd_Facts_findTable_81 : decode prog_4_method_17_code 81 = .ok (.iastore, 1) := by decide +kernel
theorem gd_Facts_findTable_82 : decode prog_4_method_17_code 82 = .ok (.iinc 1 1, 3) := by decide +kernel
theorem gd_Facts_findTable_85 : decode prog_4_method_17_code 85 = .ok (.goto (-83), 3) := by decide +kernel
theorem gd_Facts_findTable_88 : decode prog_4_method_17_code 88 = .ok (.return_, 1) := by decide +kernel
theorem gd_House_textChanged_0 : decode prog_1_method_37_code 0 = .ok (.aload_n 0, 1) := by decide +kernel
theorem gd_House_textChanged_1 : decode prog_1_method_37_code 1 = .ok (.getfield 55, 3) := by decide +kernel
theorem gd_House_textChanged_4 : decode prog_1_method_37_code 4 = .ok (.iconst 0, 1) := by decide +kernel
theorem gd_House_textChanged_5 : decode prog_1_method_37_code 5 = .ok (.putfield 303, 3) := by decide +kernel
theorem gd_House_textChanged_8 : decode prog_1_method_37_code 8 = .ok (.aload_n 0, 1) := by decide +kernel
theorem gd_House_textChanged_9 : decode prog_1_method_37_code 9 = .ok (.getfield 64, 3) := by decide +kernel
theorem gd_House_textChanged_12 : decode prog_1_method_37_code 12 = .ok (.iload_n 1, 1) := by decide +kernel
theorem gd_House_textChanged_13 : decode prog_1_method_37_code 13 = .ok (.invokevirtual 306, 3) := by decide +kernel
theorem gd_House_textChanged_16 : decode prog_1_method_37_code 16 = .ok (.aload_n 0, 1) := by decide +kernel
theorem gd_House_textChanged_17 : decode prog_1_method_37_code 17 = .ok (.getfield 71, 3) := by decide +kernel
theorem gd_House_textChanged_20 : decode prog_1_method_37_code 20 = .ok (.iload_n 1, 1) := by decide +kernel
theorem gd_House_textChanged_21 : decode prog_1_method_37_code 21 = .ok (.invokevirtual 309, 3) := by decide +kernel
theorem gd_House_textChanged_24 : decode prog_1_method_37_code 24 = .ok (.aload_n 0, 1) := by decide +kernel
theorem gd_House_textChanged_25 : decode prog_1_method_37_code 25 = .ok (.getfield 80, 3) := by decide +kernel
theorem gd_House_textChanged_28 : decode prog_1_method_37_code 28 = .ok (.iconst 0, 1) := by decide +kernel
theorem gd_House_textChanged_29 : decode prog_1_method_37_code 29 = .ok (.putfield 159, 3) := by decide +kernel
theorem gd_House_textChanged_32 : decode prog_1_method_37_code 32 = .ok (.return_, 1) := by decide +kernel
theorem gd_Wants_forgetBehind_0 : decode prog_12_method_2_code 0 = .ok (.aload_n 0, 1) := by decide +kernel
theorem gd_Wants_forgetBehind_1 : decode prog_12_method_2_code 1 = .ok (.dup, 1) := by decide +kernel
theorem gd_Wants_forgetBehind_2 : decode prog_12_method_2_code 2 = .ok (.getfield 44, 3) := by decide +kernel
theorem gd_Wants_forgetBehind_5 : decode prog_12_method_2_code 5 = .ok (.iconst 1, 1) := by decide +kernel
theorem gd_Wants_forgetBehind_6 : decode prog_12_method_2_code 6 = .ok (.iload_n 1, 1) := by decide +kernel
theorem gd_Wants_forgetBehind_7 : decode prog_12_method_2_code 7 = .ok (.iconst 1, 1) := by decide +kernel
theorem gd_Wants_forgetBehind_8 : decode prog_12_method_2_code 8 = .ok (.iadd, 1) := by decide +kernel
theorem gd_Wants_forgetBehind_9 : decode prog_12_method_2_code 9 = .ok (.ishl, 1) := by decide +kernel
theorem gd_Wants_forgetBehind_10 : decode prog_12_method_2_code 10 = .ok (.iconst 1, 1) := by decide +kernel
theorem gd_Wants_forgetBehind_11 : decode prog_12_method_2_code 11 = .ok (.isub, 1) := by decide +kernel
theorem gd_Wants_forgetBehind_12 : decode prog_12_method_2_code 12 = .ok (.iand, 1) := by decide +kernel
theorem gd_Wants_forgetBehind_13 : decode prog_12_method_2_code 13 = .ok (.putfield 44, 3) := by decide +kernel
theorem gd_Wants_forgetBehind_16 : decode prog_12_method_2_code 16 = .ok (.aload_n 0, 1) := by decide +kernel
theorem gd_Wants_forgetBehind_17 : decode prog_12_method_2_code 17 = .ok (.aload_n 0, 1) := by decide +kernel
theorem gd_Wants_forgetBehind_18 : decode prog_12_method_2_code 18 = .ok (.getfield 18, 3) := by decide +kernel
theorem gd_Wants_forgetBehind_21 : decode prog_12_method_2_code 21 = .ok (.iload_n 1, 1) := by decide +kernel
theorem gd_Wants_forgetBehind_22 : decode prog_12_method_2_code 22 = .ok (.invokestatic 47, 3) := by decide +kernel
theorem gd_Wants_forgetBehind_25 : decode prog_12_method_2_code 25 = .ok (.putfield 18, 3) := by decide +kernel
theorem gd_Wants_forgetBehind_28 : decode prog_12_method_2_code 28 = .ok (.return_, 1) := by decide +kernel
theorem gd_Forest_forgetBehind_0 : decode prog_5_method_2_code 0 = .ok (.aload_n 0, 1) := by decide +kernel
theorem gd_Forest_forgetBehind_1 : decode prog_5_method_2_code 1 = .ok (.aload_n 0, 1) := by decide +kernel
theorem gd_Forest_forgetBehind_2 : decode prog_5_method_2_code 2 = .ok (.getfield 28, 3) := by decide +kernel
theorem gd_Forest_forgetBehind_5 : decode prog_5_method_2_code 5 = .ok (.iload_n 1, 1) := by decide +kernel
theorem gd_Forest_forgetBehind_6 : decode prog_5_method_2_code 6 = .ok (.invokestatic 48, 3) := by decide +kernel
theorem gd_Forest_forgetBehind_9 : decode prog_5_method_2_code 9 = .ok (.putfield 28, 3) := by decide +kernel
theorem gd_Forest_forgetBehind_12 : decode prog_5_method_2_code 12 = .ok (.return_, 1) := by decide +kernel
theorem gd_House_fault_0 : decode prog_1_method_6_code 0 = .ok (.iload_n 1, 1) := by decide +kernel
theorem gd_House_fault_1 : decode prog_1_method_6_code 1 = .ok (.lookupswitch 43 #[(0, 27), (1, 35)], 27) := by decide +kernel
theorem gd_House_fault_28 : decode prog_1_method_6_code 28 = .ok (.aload_n 0, 1) := by decide +kernel
theorem gd_House_fault_29 : decode prog_1_method_6_code 29 = .ok (.getfield 21, 3) := by decide +kernel
theorem gd_House_fault_32 : decode prog_1_method_6_code 32 = .ok (.getfield 114, 3) := by decide +kernel
theorem gd_House_fault_35 : decode prog_1_method_6_code 35 = .ok (.ireturn, 1) := by decide +kernel
theorem gd_House_fault_36 : decode prog_1_method_6_code 36 = .ok (.aload_n 0, 1) := by decide +kernel
theorem gd_House_fault_37 : decode prog_1_method_6_code 37 = .ok (.getfield 21, 3) := by decide +kernel
theorem gd_House_fault_40 : decode prog_1_method_6_code 40 = .ok (.getfield 143, 3) := by decide +kernel
theorem gd_House_fault_43 : decode prog_1_method_6_code 43 = .ok (.ireturn, 1) := by decide +kernel
theorem gd_House_fault_44 : decode prog_1_method_6_code 44 = .ok (.sipush (-1002), 3) := by decide +kernel
theorem gd_House_fault_47 : decode prog_1_method_6_code 47 = .ok (.ireturn, 1) := by decide +kernel
theorem gd_House_sum_0 : decode prog_1_method_7_code 0 = .ok (.iload_n 1, 1) := by decide +kernel
theorem gd_House_sum_1 : decode prog_1_method_7_code 1 = .ok (.ifCond .lt 9, 3) := by decide +kernel
theorem gd_House_sum_4 : decode prog_1_method_7_code 4 = .ok (.iload_n 1, 1) := by decide +kernel
theorem gd_House_sum_5 : decode prog_1_method_7_code 5 = .ok (.bipush 6, 2) := by decide +kernel
theorem gd_House_sum_7 : decode prog_1_method_7_code 7 = .ok (.if_icmp .le 7, 3) := by decide +kernel
theorem gd_House_sum_10 : decode prog_1_method_7_code 10 = .ok (.sipush (-1002), 3) := by decide +kernel
theorem gd_House_sum_13 : decode prog_1_method_7_code 13 = .ok (.ireturn, 1) := by decide +kernel
theorem gd_House_sum_14 : decode prog_1_method_7_code 14 = .ok (.aload_n 0, 1) := by decide +kernel
theorem gd_House_sum_15 : decode prog_1_method_7_code 15 = .ok (.getfield 129, 3) := by decide +kernel
theorem gd_House_sum_18 : decode prog_1_method_7_code 18 = .ok (.ifCond .ne 7, 3) := by decide +kernel
theorem gd_House_sum_21 : decode prog_1_method_7_code 21 = .ok (.sipush (-1003), 3) := by decide +kernel
theorem gd_House_sum_24 : decode prog_1_method_7_code 24 = .ok (.ireturn, 1) := by decide +kernel
theorem gd_House_sum_25 : decode prog_1_method_7_code 25 = .ok (.iload_n 1, 1) := by decide +kernel
theorem gd_House_sum_26 : decode prog_1_method_7_code 26 = .ok (.tableswitch 86 0 5 #[38, 46, 54, 62, 70, 78], 38) := by decide +kernel
theorem gd_House_sum_64 : decode prog_1_method_7_code 64 = .ok (.aload_n 0, 1) := by decide +kernel
theorem gd_House_sum_65 : decode prog_1_method_7_code 65 = .ok (.getfield 28, 3) := by decide +kernel
theorem gd_House_sum_68 : decode prog_1_method_7_code 68 = .ok (.getfield 146, 3) := by decide +kernel
theorem gd_House_sum_71 : decode prog_1_method_7_code 71 = .ok (.ireturn, 1) := by decide +kernel
theorem gd_House_sum_72 : decode prog_1_method_7_code 72 = .ok (.aload_n 0, 1) := by decide +kernel
theorem gd_House_sum_73 : decode prog_1_method_7_code 73 = .ok (.getfield 28, 3) := by decide +kernel
theorem gd_House_sum_76 : decode prog_1_method_7_code 76 = .ok (.getfield 149, 3) := by decide +kernel
theorem gd_House_sum_79 : decode prog_1_method_7_code 79 = .ok (.ireturn, 1) := by decide +kernel
theorem gd_House_sum_80 : decode prog_1_method_7_code 80 = .ok (.aload_n 0, 1) := by decide +kernel
theorem gd_House_sum_81 : decode prog_1_method_7_code 81 = .ok (.getfield 28, 3) := by decide +kernel
theorem gd_House_sum_84 : decode prog_1_method_7_code 84 = .ok (.getfield 140, 3) := by decide +kernel
theorem gd_House_sum_87 : decode prog_1_method_7_code 87 = .ok (.ireturn, 1) := by decide +kernel
theorem gd_House_sum_88 : decode prog_1_method_7_code 88 = .ok (.aload_n 0, 1) := by decide +kernel
theorem gd_House_sum_89 : decode prog_1_method_7_code 89 = .ok (.getfield 28, 3) := by decide +kernel
theorem gd_House_sum_92 : decode prog_1_method_7_code 92 = .ok (.invokevirtual 152, 3) := by decide +kernel
theorem gd_House_sum_95 : decode prog_1_method_7_code 95 = .ok (.ireturn, 1) := by decide +kernel
theorem gd_House_sum_96 : decode prog_1_method_7_code 96 = .ok (.aload_n 0, 1) := by decide +kernel
theorem gd_House_sum_97 : decode prog_1_method_7_code 97 = .ok (.getfield 46, 3) := by decide +kernel
theorem gd_House_sum_100 : decode prog_1_method_7_code 100 = .ok (.getfield 133, 3) := by decide +kernel
theorem gd_House_sum_103 : decode prog_1_method_7_code 103 = .ok (.ireturn, 1) := by decide +kernel
theorem gd_House_sum_104 : decode prog_1_method_7_code 104 = .ok (.aload_n 0, 1) := by decide +kernel
theorem gd_House_sum_105 : decode prog_1_method_7_code 105 = .ok (.getfield 37, 3) := by decide +kernel
theorem gd_House_sum_108 : decode prog_1_method_7_code 108 = .ok (.invokevirtual 156, 3) := by decide +kernel
theorem gd_House_sum_111 : decode prog_1_method_7_code 111 = .ok (.ireturn, 1) := by decide +kernel
theorem gd_House_sum_112 : decode prog_1_method_7_code 112 = .ok (.aload_n 0, 1) := by decide +kernel
theorem gd_House_sum_113 : decode prog_1_method_7_code 113 = .ok (.getfield 80, 3) := by decide +kernel
theorem gd_House_sum_116 : decode prog_1_method_7_code 116 = .ok (.getfield 159, 3) := by decide +kernel
theorem gd_House_sum_119 : decode prog_1_method_7_code 119 = .ok (.ireturn, 1) := by decide +kernel
theorem gd_Grammar_allParts_0 : decode prog_6_method_10_code 0 = .ok (.iconst 0, 1) := by decide +kernel
theorem gd_Grammar_allParts_1 : decode prog_6_method_10_code 1 = .ok (.istore_n 1, 1) := by decide +kernel
theorem gd_Grammar_allParts_2 : decode prog_6_method_10_code 2 = .ok (.iconst 0, 1) := by decide +kernel
theorem gd_Grammar_allParts_3 : decode prog_6_method_10_code 3 = .ok (.istore_n 2, 1) := by decide +kernel
theorem gd_Grammar_allParts_4 : decode prog_6_method_10_code 4 = .ok (.iload_n 2, 1) := by decide +kernel
theorem gd_Grammar_allParts_5 : decode prog_6_method_10_code 5 = .ok (.aload_n 0, 1) := by decide +kernel
theorem gd_Grammar_allParts_6 : decode prog_6_method_10_code 6 = .ok (.getfield 37, 3) := by decide +kernel
theorem gd_Grammar_allParts_9 : decode prog_6_method_10_code 9 = .ok (.if_icmp .ge 18, 3) := by decide +kernel
theorem gd_Grammar_allParts_12 : decode prog_6_method_10_code 12 = .ok (.iload_n 1, 1) := by decide +kernel
theorem gd_Grammar_allParts_13 : decode prog_6_method_10_code 13 = .ok (.aload_n 0, 1) := by decide +kernel
theorem gd_Grammar_allParts_14 : decode prog_6_method_10_code 14 = .ok (.getfield 21, 3) := by decide +kernel
theorem gd_Grammar_allParts_17 : decode prog_6_method_10_code 17 = .ok (.iload_n 2, 1) := by decide +kernel
theorem gd_Grammar_allParts_18 : decode prog_6_method_10_code 18 = .ok (.iaload, 1) := by decide +kernel
theorem gd_Grammar_allParts_19 : decode prog_6_method_10_code 19 = .ok (.iadd, 1) := by decide +kernel
theorem gd_Grammar_allParts_20 : decode prog_6_method_10_code 20 = .ok (.istore_n 1, 1) := by decide +kernel
theorem gd_Grammar_allParts_21 : decode prog_6_method_10_code 21 = .ok (.iinc 2 1, 3) := by decide +kernel
theorem gd_Grammar_allParts_24 : decode prog_6_method_10_code 24 = .ok (.goto (-20), 3) := by decide +kernel
theorem gd_Grammar_allParts_27 : decode prog_6_method_10_code 27 = .ok (.iload_n 1, 1) := by decide +kernel
theorem gd_Grammar_allParts_28 : decode prog_6_method_10_code 28 = .ok (.ireturn, 1) := by decide +kernel
theorem gd_Facts_clashes_0 : decode prog_4_method_19_code 0 = .ok (.iconst 0, 1) := by decide +kernel
theorem gd_Facts_clashes_1 : decode prog_4_method_19_code 1 = .ok (.istore_n 1, 1) := by decide +kernel
theorem gd_Facts_clashes_2 : decode prog_4_method_19_code 2 = .ok (.iconst 0, 1) := by decide +kernel
theorem gd_Facts_clashes_3 : decode prog_4_method_19_code 3 = .ok (.istore_n 2, 1) := by decide +kernel
theorem gd_Facts_clashes_4 : decode prog_4_method_19_code 4 = .ok (.iload_n 2, 1) := by decide +kernel
theorem gd_Facts_clashes_5 : decode prog_4_method_19_code 5 = .ok (.aload_n 0, 1) := by decide +kernel
theorem gd_Facts_clashes_6 : decode prog_4_method_19_code 6 = .ok (.getfield 27, 3) := by decide +kernel
theorem gd_Facts_clashes_9 : decode prog_4_method_19_code 9 = .ok (.getfield 73, 3) := by decide +kernel
theorem gd_Facts_clashes_12 : decode prog_4_method_19_code 12 = .ok (.if_icmp .ge 76, 3) := by decide +kernel
theorem gd_Facts_clashes_15 : decode prog_4_method_19_code 15 = .ok (.iconst 0, 1) := by decide +kernel
theorem gd_Facts_clashes_16 : decode prog_4_method_19_code 16 = .ok (.istore_n 3, 1) := by decide +kernel
theorem gd_Facts_clashes_17 : decode prog_4_method_19_code 17 = .ok (.iconst 0, 1) := by decide +kernel
theorem gd_Facts_clashes_18 : decode prog_4_method_19_code 18 = .ok (.istore 4, 2) := by decide +kernel
theorem gd_Facts_clashes_20 : decode prog_4_method_19_code 20 = .ok (.aload_n 0, 1) := by decide +kernel
theorem gd_Facts_clashes_21 : decode prog_4_method_19_code 21 = .ok (.getfield 27, 3) := by decide +kernel
theorem gd_Facts_clashes_24 : decode prog_4_method_19_code 24 = .ok (.getfield 130, 3) := by decide +kernel
theorem gd_Facts_clashes_27 : decode prog_4_method_19_code 27 = .ok (.iload_n 2, 1) := by decide +kernel
theorem gd_Facts_clashes_28 : decode prog_4_method_19_code 28 = .ok (.iaload, 1) := by decide +kernel
theorem gd_Facts_clashes_29 : decode prog_4_method_19_code 29 = .ok (.istore 5, 2) := by decide +kernel
theorem gd_Facts_clashes_31 : decode prog_4_method_19_code 31 = .ok (.iload 5, 2) := by decide +kernel
theorem gd_Facts_clashes_33 : decode prog_4_method_19_code 33 = .ok (.aload_n 0, 1) := by decide +kernel
theorem gd_Facts_clashes_34 : decode prog_4_method_19_code 34 = .ok (.getfield 27, 3) := by decide +kernel
theorem gd_Facts_clashes_37 : decode prog_4_method_19_code 37 = .ok (.iload_n 2, 1) := by decide +kernel
theorem gd_Facts_clashes_38 : decode prog_4_method_19_code 38 = .ok (.invokevirtual 133, 3) := by decide +kernel
theorem gd_Facts_clashes_41 : decode prog_4_method_19_code 41 = .ok (.if_icmp .ge 33, 3) := by decide +kernel
theorem gd_Facts_clashes_44 : decode prog_4_method_19_code 44 = .ok (.iload 4, 2) := by decide +kernel
theorem gd_Facts_clashes_46 : decode prog_4_method_19_code 46 = .ok (.iload_n 3, 1) := by decide +kernel
theorem gd_Facts_clashes_47 : decode prog_4_method_19_code 47 = .ok (.aload_n 0, 1) := by decide +kernel
theorem gd_Facts_clashes_48 : decode prog_4_method_19_code 48 = .ok (.getfield 24, 3) := by decide +kernel
theorem gd_Facts_clashes_51 : decode prog_4_method_19_code 51 = .ok (.iload 5, 2) := by decide +kernel
theorem gd_Facts_clashes_53 : decode prog_4_method_19_code 53 = .ok (.iaload, 1) := by decide +kernel
theorem gd_Facts_clashes_54 : decode prog_4_method_19_code 54 = .ok (.iand, 1) := by decide +kernel
theorem gd_Facts_clashes_55 : decode prog_4_method_19_code 55 = .ok (.ior, 1) := by decide +kernel
theorem gd_Facts_clashes_56 : decode prog_4_method_19_code 56 = .ok (.istore 4, 2) := by decide +kernel
theorem gd_Facts_clashes_58 : decode prog_4_method_19_code 58 = .ok (.iload_n 3, 1) := by decide +kernel
theorem gd_Facts_clashes_59 : decode prog_4_method_19_code 59 = .ok (.aload_n 0, 1) := by decide +kernel
theorem gd_Facts_clashes_60 : decode prog_4_method_19_code 60 = .ok (.getfield 24, 3) := by decide +kernel
theorem gd_Facts_clashes_63 : decode prog_4_method_19_code 63 = .ok (.iload 5, 2) := by decide +kernel
theorem gd_Facts_clashes_65 : decode prog_4_method_19_code 65 = .ok (.iaload, 1) := by decide +kernel
theorem gd_Facts_clashes_66 : decode prog_4_method_19_code 66 = .ok (.ior, 1) := by decide +kernel
theorem gd_Facts_clashes_67 : decode prog_4_method_19_code 67 = .ok (.istore_n 3, 1) := by decide +kernel
theorem gd_Facts_clashes_68 : decode prog_4_method_19_code 68 = .ok (.iinc 5 1, 3) := by decide +kernel
theorem gd_Facts_clashes_71 : decode prog_4_method_19_code 71 = .ok (.goto (-40), 3) := by decide +kernel
theorem gd_Facts_clashes_74 : decode prog_4_method_19_code 74 = .ok (.iload_n 1, 1) := by decide +kernel
theorem gd_Facts_clashes_75 : decode prog_4_method_19_code 75 = .ok (.iload 4, 2) := by decide +kernel
theorem gd_Facts_clashes_77 : decode prog_4_method_19_code 77 = .ok (.invokestatic 136, 3) := by decide +kernel
theorem gd_Facts_clashes_80 : decode prog_4_method_19_code 80 = .ok (.iadd, 1) := by decide +kernel
theorem gd_Facts_clashes_81 : decode prog_4_method_19_code 81 = .ok (.istore_n 1, 1) := by decide +kernel
theorem gd_Facts_clashes_82 : decode prog_4_method_19_code 82 = .ok (.iinc 2 1, 3) := by decide +kernel
theorem gd_Facts_clashes_85 : decode prog_4_method_19_code 85 = .ok (.goto (-81), 3) := by decide +kernel
theorem gd_Facts_clashes_88 : decode prog_4_method_19_code 88 = .ok (.iload_n 1, 1) := by decide +kernel
theorem gd_Facts_clashes_89 : decode prog_4_method_19_code 89 = .ok (.ireturn, 1) := by decide +kernel
theorem gd_Grammar_behindRules_0 : decode prog_6_method_9_code 0 = .ok (.aload_n 0, 1) := by decide +kernel
theorem gd_Grammar_behindRules_1 : decode prog_6_method_9_code 1 = .ok (.getfield 9, 3) := by decide +kernel
theorem gd_Grammar_behindRules_4 : decode prog_6_method_9_code 4 = .ok (.iload_n 1, 1) := by decide +kernel
theorem gd_Grammar_behindRules_5 : decode prog_6_method_9_code 5 = .ok (.iaload, 1) := by decide +kernel
theorem gd_Grammar_behindRules_6 : decode prog_6_method_9_code 6 = .ok (.aload_n 0, 1) := by decide +kernel
theorem gd_Grammar_behindRules_7 : decode prog_6_method_9_code 7 = .ok (.getfield 15, 3) := by decide +kernel
theorem gd_Grammar_behindRules_10 : decode prog_6_method_9_code 10 = .ok (.iload_n 1, 1) := by decide +kernel
theorem gd_Grammar_behindRules_11 : decode prog_6_method_9_code 11 = .ok (.iaload, 1) := by decide +kernel
theorem gd_Grammar_behindRules_12 : decode prog_6_method_9_code 12 = .ok (.iadd, 1) := by decide +kernel
theorem gd_Grammar_behindRules_13 : decode prog_6_method_9_code 13 = .ok (.ireturn, 1) := by decide +kernel
theorem gd_JInteger_bitCount_0 : decode prog_15_method_49_code 0 = .ok (.iload_n 0, 1) := by decide +kernel
theorem gd_JInteger_bitCount_1 : decode prog_15_method_49_code 1 = .ok (.iload_n 0, 1) := by decide +kernel
theorem gd_JInteger_bitCount_2 : decode prog_15_method_49_code 2 = .ok (.iconst 1, 1) := by decide +kernel
theorem gd_JInteger_bitCount_3 : decode prog_15_method_49_code 3 = .ok (.iushr, 1) := by decide +kernel
theorem gd_JInteger_bitCount_4 : decode prog_15_method_49_code 4 = .ok (.ldc_w 265, 3) := by decide +kernel
theorem gd_JInteger_bitCount_7 : decode prog_15_method_49_code 7 = .ok (.iand, 1) := by decide +kernel
theorem gd_JInteger_bitCount_8 : decode prog_15_method_49_code 8 = .ok (.isub, 1) := by decide +kernel
theorem gd_JInteger_bitCount_9 : decode prog_15_method_49_code 9 = .ok (.istore_n 0, 1) := by decide +kernel
theorem gd_JInteger_bitCount_10 : decode prog_15_method_49_code 10 = .ok (.iload_n 0, 1) := by decide +kernel
theorem gd_JInteger_bitCount_11 : decode prog_15_method_49_code 11 = .ok (.ldc_w 266, 3) := by decide +kernel
theorem gd_JInteger_bitCount_14 : decode prog_15_method_49_code 14 = .ok (.iand, 1) := by decide +kernel
theorem gd_JInteger_bitCount_15 : decode prog_15_method_49_code 15 = .ok (.iload_n 0, 1) := by decide +kernel
theorem gd_JInteger_bitCount_16 : decode prog_15_method_49_code 16 = .ok (.iconst 2, 1) := by decide +kernel
theorem gd_JInteger_bitCount_17 : decode prog_15_method_49_code 17 = .ok (.iushr, 1) := by decide +kernel
theorem gd_JInteger_bitCount_18 : decode prog_15_method_49_code 18 = .ok (.ldc_w 266, 3) := by decide +kernel
theorem gd_JInteger_bitCount_21 : decode prog_15_method_49_code 21 = .ok (.iand, 1) := by decide +kernel
theorem gd_JInteger_bitCount_22 : decode prog_15_method_49_code 22 = .ok (.iadd, 1) := by decide +kernel
theorem gd_JInteger_bitCount_23 : decode prog_15_method_49_code 23 = .ok (.istore_n 0, 1) := by decide +kernel
theorem gd_JInteger_bitCount_24 : decode prog_15_method_49_code 24 = .ok (.iload_n 0, 1) := by decide +kernel
theorem gd_JInteger_bitCount_25 : decode prog_15_method_49_code 25 = .ok (.iload_n 0, 1) := by decide +kernel
theorem gd_JInteger_bitCount_26 : decode prog_15_method_49_code 26 = .ok (.iconst 4, 1) := by decide +kernel
theorem gd_JInteger_bitCount_27 : decode prog_15_method_49_code 27 = .ok (.iushr, 1) := by decide +kernel
theorem gd_JInteger_bitCount_28 : decode prog_15_method_49_code 28 = .ok (.iadd, 1) := by decide +kernel
theorem gd_JInteger_bitCount_29 : decode prog_15_method_49_code 29 = .ok (.ldc_w 267, 3) := by decide +kernel
theorem gd_JInteger_bitCount_32 : decode prog_15_method_49_code 32 = .ok (.iand, 1) := by decide +kernel
theorem gd_JInteger_bitCount_33 : decode prog_15_method_49_code 33 = .ok (.istore_n 0, 1) := by decide +kernel
theorem gd_JInteger_bitCount_34 : decode prog_15_method_49_code 34 = .ok (.iload_n 0, 1) := by decide +kernel
theorem gd_JInteger_bitCount_35 : decode prog_15_method_49_code 35 = .ok (.iload_n 0, 1) := by decide +kernel
theorem gd_JInteger_bitCount_36 : decode prog_15_method_49_code 36 = .ok (.bipush 8, 2) := by decide +kernel
theorem gd_JInteger_bitCount_38 : decode prog_15_method_49_code 38 = .ok (.iushr, 1) := by decide +kernel
theorem gd_JInteger_bitCount_39 : decode prog_15_method_49_code 39 = .ok (.iadd, 1) := by decide +kernel
theorem gd_JInteger_bitCount_40 : decode prog_15_method_49_code 40 = .ok (.istore_n 0, 1) := by decide +kernel
theorem gd_JInteger_bitCount_41 : decode prog_15_method_49_code 41 = .ok (.iload_n 0, 1) := by decide +kernel
theorem gd_JInteger_bitCount_42 : decode prog_15_method_49_code 42 = .ok (.iload_n 0, 1) := by decide +kernel
theorem gd_JInteger_bitCount_43 : decode prog_15_method_49_code 43 = .ok (.bipush 16, 2) := by decide +kernel
theorem gd_JInteger_bitCount_45 : decode prog_15_method_49_code 45 = .ok (.iushr, 1) := by decide +kernel
theorem gd_JInteger_bitCount_46 : decode prog_15_method_49_code 46 = .ok (.iadd, 1) := by decide +kernel
theorem gd_JInteger_bitCount_47 : decode prog_15_method_49_code 47 = .ok (.istore_n 0, 1) := by decide +kernel
theorem gd_JInteger_bitCount_48 : decode prog_15_method_49_code 48 = .ok (.iload_n 0, 1) := by decide +kernel
theorem gd_JInteger_bitCount_49 : decode prog_15_method_49_code 49 = .ok (.bipush 63, 2) := by decide +kernel
theorem gd_JInteger_bitCount_51 : decode prog_15_method_49_code 51 = .ok (.iand, 1) := by decide +kernel
theorem gd_JInteger_bitCount_52 : decode prog_15_method_49_code 52 = .ok (.ireturn, 1) := by decide +kernel
theorem gd_House_put_0 : decode prog_1_method_15_code 0 = .ok (.iload_n 1, 1) := by decide +kernel
theorem gd_House_put_1 : decode prog_1_method_15_code 1 = .ok (.ifCond .lt 9, 3) := by decide +kernel
theorem gd_House_put_4 : decode prog_1_method_15_code 4 = .ok (.iload_n 1, 1) := by decide +kernel
theorem gd_House_put_5 : decode prog_1_method_15_code 5 = .ok (.bipush 26, 2) := by decide +kernel
theorem gd_House_put_7 : decode prog_1_method_15_code 7 = .ok (.if_icmp .lt 7, 3) := by decide +kernel
theorem gd_House_put_10 : decode prog_1_method_15_code 10 = .ok (.sipush (-1002), 3) := by decide +kernel
theorem gd_House_put_13 : decode prog_1_method_15_code 13 = .ok (.ireturn, 1) := by decide +kernel
theorem gd_House_put_14 : decode prog_1_method_15_code 14 = .ok (.aload_n 0, 1) := by decide +kernel
theorem gd_House_put_15 : decode prog_1_method_15_code 15 = .ok (.getfield 129, 3) := by decide +kernel
theorem gd_House_put_18 : decode prog_1_method_15_code 18 = .ok (.ifCond .ne 7, 3) := by decide +kernel
theorem gd_House_put_21 : decode prog_1_method_15_code 21 = .ok (.sipush (-1003), 3) := by decide +kernel
theorem gd_House_put_24 : decode prog_1_method_15_code 24 = .ok (.ireturn, 1) := by decide +kernel
theorem gd_House_put_25 : decode prog_1_method_15_code 25 = .ok (.aload_n 0, 1) := by decide +kernel
theorem gd_House_put_26 : decode prog_1_method_15_code 26 = .ok (.getfield 46, 3) := by decide +kernel
theorem gd_House_put_29 : decode prog_1_method_15_code 29 = .ok (.getfield 133, 3) := by decide +kernel
theorem gd_House_put_32 : decode prog_1_method_15_code 32 = .ok (.bipush 8, 2) := by decide +kernel
theorem gd_House_put_34 : decode prog_1_method_15_code 34 = .ok (.if_icmp .lt 7, 3) := by decide +kernel
theorem gd_House_put_37 : decode prog_1_method_15_code 37 = .ok (.sipush (-1004), 3) := by decide +kernel
theorem gd_House_put_40 : decode prog_1_method_15_code 40 = .ok (.ireturn, 1) := by decide +kernel
theorem gd_House_put_41 : decode prog_1_method_15_code 41 = .ok (.aload_n 0, 1) := by decide +kernel
theorem gd_House_put_42 : decode prog_1_method_15_code 42 = .ok (.aload_n 0, 1) := by decide +kernel
theorem gd_House_put_43 : decode prog_1_method_15_code 43 = .ok (.getfield 46, 3) := by decide +kernel
theorem gd_House_put_46 : decode prog_1_method_15_code 46 = .ok (.getfield 133, 3) := by decide +kernel
theorem gd_House_put_49 : decode prog_1_method_15_code 49 = .ok (.invokevirtual 137, 3) := by decide +kernel
theorem gd_House_put_52 : decode prog_1_method_15_code 52 = .ok (.aload_n 0, 1) := by decide +kernel
theorem gd_House_put_53 : decode prog_1_method_15_code 53 = .ok (.getfield 46, 3) := by decide +kernel
theorem gd_House_put_56 : decode prog_1_method_15_code 56 = .ok (.getfield 214, 3) := by decide +kernel
theorem gd_House_put_59 : decode prog_1_method_15_code 59 = .ok (.aload_n 0, 1) := by decide +kernel
theorem gd_House_put_60 : decode prog_1_method_15_code 60 = .ok (.getfield 46, 3) := by decide +kernel
theorem gd_House_put_63 : decode prog_1_method_15_code 63 = .ok (.getfield 133, 3) := by decide +kernel
theorem gd_House_put_66 : decode prog_1_method_15_code 66 = .ok (.iload_n 1, 1) := by decide +kernel
theorem gd_House_put_67 : decode prog_1_method_15_code 67 = .ok (.iastore, 1) := by decide +kernel
theorem gd_House_put_68 : decode prog_1_method_15_code 68 = .ok (.aload_n 0, 1) := by decide +kernel
theorem gd_House_put_69 : decode prog_1_method_15_code 69 = .ok (.getfield 46, 3) := by decide +kernel
theorem gd_House_put_72 : decode prog_1_method_15_code 72 = .ok (.dup, 1) := by decide +kernel
theorem gd_House_put_73 : decode prog_1_method_15_code 73 = .ok (.getfield 133, 3) := by decide +kernel
theorem gd_House_put_76 : decode prog_1_method_15_code 76 = .ok (.iconst 1, 1) := by decide +kernel
theorem gd_House_put_77 : decode prog_1_method_15_code 77 = .ok (.iadd, 1) := by decide +kernel
theorem gd_House_put_78 : decode prog_1_method_15_code 78 = .ok (.putfield 133, 3) := by decide +kernel
theorem gd_House_put_81 : decode prog_1_method_15_code 81 = .ok (.aload_n 0, 1) := by decide +kernel
theorem gd_House_put_82 : decode prog_1_method_15_code 82 = .ok (.getfield 46, 3) := by decide +kernel
theorem gd_House_put_85 : decode prog_1_method_15_code 85 = .ok (.getfield 133, 3) := by decide +kernel
theorem gd_House_put_88 : decode prog_1_method_15_code 88 = .ok (.ireturn, 1) := by decide +kernel
theorem gd_House_made_0 : decode prog_1_method_17_code 0 = .ok (.iload_n 1, 1) := by decide +kernel
theorem gd_House_made_1 : decode prog_1_method_17_code 1 = .ok (.ifCond .lt 9, 3) := by decide +kernel
theorem gd_House_made_4 : decode prog_1_method_17_code 4 = .ok (.iload_n 1, 1) := by decide +kernel
theorem gd_House_made_5 : decode prog_1_method_17_code 5 = .ok (.ldc 217, 2) := by decide +kernel
theorem gd_House_made_7 : decode prog_1_method_17_code 7 = .ok (.if_icmp .lt 7, 3) := by decide +kernel
theorem gd_House_made_10 : decode prog_1_method_17_code 10 = .ok (.sipush (-1002), 3) := by decide +kernel
theorem gd_House_made_13 : decode prog_1_method_17_code 13 = .ok (.ireturn, 1) := by decide +kernel
theorem gd_House_made_14 : decode prog_1_method_17_code 14 = .ok (.aload_n 0, 1) := by decide +kernel
theorem gd_House_made_15 : decode prog_1_method_17_code 15 = .ok (.getfield 129, 3) := by decide +kernel
theorem gd_House_made_18 : decode prog_1_method_17_code 18 = .ok (.ifCond .ne 7, 3) := by decide +kernel
theorem gd_House_made_21 : decode prog_1_method_17_code 21 = .ok (.sipush (-1003), 3) := by decide +kernel
theorem gd_House_made_24 : decode prog_1_method_17_code 24 = .ok (.ireturn, 1) := by decide +kernel
theorem gd_House_made_25 : decode prog_1_method_17_code 25 = .ok (.aload_n 0, 1) := by decide +kernel
theorem gd_House_made_26 : decode prog_1_method_17_code 26 = .ok (.getfield 46, 3) := by decide +kernel
theorem gd_House_made_29 : decode prog_1_method_17_code 29 = .ok (.iload_n 1, 1) := by decide +kernel
theorem gd_House_made_30 : decode prog_1_method_17_code 30 = .ok (.invokevirtual 218, 3) := by decide +kernel
theorem gd_House_made_33 : decode prog_1_method_17_code 33 = .ok (.ifCond .ne 5, 3) := by decide +kernel
theorem gd_House_made_36 : decode prog_1_method_17_code 36 = .ok (.iconst (-1), 1) := by decide +kernel
theorem gd_House_made_37 : decode prog_1_method_17_code 37 = .ok (.ireturn, 1) := by decide +kernel
theorem gd_House_made_38 : decode prog_1_method_17_code 38 = .ok (.aload_n 0, 1) := by decide +kernel
theorem gd_House_made_39 : decode prog_1_method_17_code 39 = .ok (.iconst 0, 1) := by decide +kernel
theorem gd_House_made_40 : decode prog_1_method_17_code 40 = .ok (.invokevirtual 137, 3) := by decide +kernel
theorem gd_House_made_43 : decode prog_1_method_17_code 43 = .ok (.aload_n 0, 1) := by decide +kernel
theorem gd_House_made_44 : decode prog_1_method_17_code 44 = .ok (.getfield 46, 3) := by decide +kernel
theorem gd_House_made_47 : decode prog_1_method_17_code 47 = .ok (.getfield 133, 3) := by decide +kernel
theorem gd_House_made_50 : decode prog_1_method_17_code 50 = .ok (.ireturn, 1) := by decide +kernel
theorem gd_Text_compose_0 : decode prog_11_method_4_code 0 = .ok (.aload_n 0, 1) := by decide +kernel
theorem gd_Text_compose_1 : decode prog_11_method_4_code 1 = .ok (.getfield 25, 3) := by decide +kernel
theorem gd_Text_compose_4 : decode prog_11_method_4_code 4 = .ok (.getfield 33, 3) := by decide +kernel
theorem gd_Text_compose_7 : decode prog_11_method_4_code 7 = .ok (.iconst 1, 1) := by decide +kernel
theorem gd_Text_compose_8 : decode prog_11_method_4_code 8 = .ok (.iand, 1) := by decide +kernel
theorem gd_Text_compose_9 : decode prog_11_method_4_code 9 = .ok (.ifCond .ne 5, 3) := by decide +kernel
theorem gd_Text_compose_12 : decode prog_11_method_4_code 12 = .ok (.iconst 0, 1) := by decide +kernel
theorem gd_Text_compose_13 : decode prog_11_method_4_code 13 = .ok (.ireturn, 1) := by decide +kernel
theorem gd_Text_compose_14 : decode prog_11_method_4_code 14 = .ok (.aload_n 0, 1) := by decide +kernel
theorem gd_Text_compose_15 : decode prog_11_method_4_code 15 = .ok (.iload_n 1, 1) := by decide +kernel
theorem gd_Text_compose_16 : decode prog_11_method_4_code 16 = .ok (.putfield 38, 3) := by decide +kernel
theorem gd_Text_compose_19 : decode prog_11_method_4_code 19 = .ok (.aload_n 0, 1) := by decide +kernel
theorem gd_Text_compose_20 : decode prog_11_method_4_code 20 = .ok (.iconst 0, 1) := by decide +kernel
theorem gd_Text_compose_21 : decode prog_11_method_4_code 21 = .ok (.putfield 41, 3) := by decide +kernel
theorem gd_Text_compose_24 : decode prog_11_method_4_code 24 = .ok (.aload_n 0, 1) := by decide +kernel
theorem gd_Text_compose_25 : decode prog_11_method_4_code 25 = .ok (.getfield 18, 3) := by decide +kernel
theorem gd_Text_compose_28 : decode prog_11_method_4_code 28 = .ok (.iconst 0, 1) := by decide +kernel
theorem gd_Text_compose_29 : decode prog_11_method_4_code 29 = .ok (.iconst (-1), 1) := by decide +kernel
theorem gd_Text_compose_30 : decode prog_11_method_4_code 30 = .ok (.iastore, 1) := by decide +kernel
theorem gd_Text_compose_31 : decode prog_11_method_4_code 31 = .ok (.aload_n 0, 1) := by decide +kernel
theorem gd_Text_compose_32 : decode prog_11_method_4_code 32 = .ok (.iconst 1, 1) := by decide +kernel
theorem gd_Text_compose_33 : decode prog_11_method_4_code 33 = .ok (.putfield 44, 3) := by decide +kernel
theorem gd_Text_compose_36 : decode prog_11_method_4_code 36 = .ok (.iconst 0, 1) := by decide +kernel
theorem gd_Text_compose_37 : decode prog_11_method_4_code 37 = .ok (.istore_n 2, 1) := by decide +kernel
theorem gd_Text_compose_38 : decode prog_11_method_4_code 38 = .ok (.aload_n 0, 1) := by decide +kernel
theorem gd_Text_compose_39 : decode prog_11_method_4_code 39 = .ok (.getfield 44, 3) := by decide +kernel
theorem gd_Text_compose_42 : decode prog_11_method_4_code 42 = .ok (.ifCond .le 78, 3) := by decide +kernel
theorem gd_Text_compose_45 : decode prog_11_method_4_code 45 = .ok (.iload_n 2, 1) := by decide +kernel
theorem gd_Text_compose_46 : decode prog_11_method_4_code 46 = .ok (.bipush 60, 2) := by decide +kernel
theorem gd_Text_compose_48 : decode prog_11_method_4_code 48 = .ok (.if_icmp .ne 5, 3) := by decide +kernel
theorem gd_Text_compose_51 : decode prog_11_method_4_code 51 = .ok (.iconst 0, 1) := by decide +kernel
theorem gd_Text_compose_52 : decode prog_11_method_4_code 52 = .ok (.ireturn, 1) := by decide +kernel
theorem gd_Text_compose_53 : decode prog_11_method_4_code 53 = .ok (.aload_n 0, 1) := by decide +kernel
theorem gd_Text_compose_54 : decode prog_11_method_4_code 54 = .ok (.dup, 1) := by decide +kernel
theorem gd_Text_compose_55 : decode prog_11_method_4_code 55 = .ok (.getfield 44, 3) := by decide +kernel
theorem gd_Text_compose_58 : decode prog_11_method_4_code 58 = .ok (.iconst 1, 1) := by decide +kernel
theorem gd_Text_compose_59 : decode prog_11_method_4_code 59 = .ok (.isub, 1) := by decide +kernel
theorem gd_Text_compose_60 : decode prog_11_method_4_code 60 = .ok (.putfield 44, 3) := by decide +kernel
theorem gd_Text_compose_63 : decode prog_11_method_4_code 63 = .ok (.aload_n 0, 1) := by decide +kernel
theorem gd_Text_compose_64 : decode prog_11_method_4_code 64 = .ok (.getfield 21, 3) := by decide +kernel
theorem gd_Text_compose_67 : decode prog_11_method_4_code 67 = .ok (.aload_n 0, 1) := by decide +kernel
theorem gd_Text_compose_68 : decode prog_11_method_4_code 68 = .ok (.getfield 18, 3) := by decide +kernel
theorem gd_Text_compose_71 : decode prog_11_method_4_code 71 = .ok (.aload_n 0, 1) := by decide +kernel
theorem gd_Text_compose_72 : decode prog_11_method_4_code 72 = .ok (.getfield 44, 3) := by decide +kernel
theorem gd_Text_compose_75 : decode prog_11_method_4_code 75 = .ok (.iaload, 1) := by decide +kernel
theorem gd_Text_compose_76 : decode prog_11_method_4_code 76 = .ok (.invokevirtual 47, 3) := by decide +kernel
theorem gd_Text_compose_79 : decode prog_11_method_4_code 79 = .ok (.istore_n 3, 1) := by decide +kernel
theorem gd_Text_compose_80 : decode prog_11_method_4_code 80 = .ok (.iload_n 3, 1) := by decide +kernel
theorem gd_Text_compose_81 : decode prog_11_method_4_code 81 = .ok (.iconst (-1), 1) := by decide +kernel
theorem gd_Text_compose_82 : decode prog_11_method_4_code 82 = .ok (.if_icmp .eq 14, 3) := by decide +kernel
theorem gd_Text_compose_85 : decode prog_11_method_4_code 85 = .ok (.aload_n 0, 1) := by decide +kernel
theorem gd_Text_compose_86 : decode prog_11_method_4_code 86 = .ok (.iload_n 3, 1) := by decide +kernel
theorem gd_Text_compose_87 : decode prog_11_method_4_code 87 = .ok (.invokevirtual 53, 3) := by decide +kernel
theorem gd_Text_compose_90 : decode prog_11_method_4_code 90 = .ok (.ifCond .eq 22, 3) := by decide +kernel
theorem gd_Text_compose_93 : decode prog_11_method_4_code 93 = .ok (.goto 21, 3) := by decide +kernel
theorem gd_Text_compose_96 : decode prog_11_method_4_code 96 = .ok (.aload_n 0, 1) := by decide +kernel
theorem gd_Text_compose_97 : decode prog_11_method_4_code 97 = .ok (.aload_n 0, 1) := by decide +kernel
theorem gd_Text_compose_98 : decode prog_11_method_4_code 98 = .ok (.getfield 18, 3) := by decide +kernel
theorem gd_Text_compose_101 : decode prog_11_method_4_code 101 = .ok (.aload_n 0, 1) := by decide +kernel
theorem gd_Text_compose_102 : decode prog_11_method_4_code 102 = .ok (.getfield 44, 3) := by decide +kernel
theorem gd_Text_compose_105 : decode prog_11_method_4_code 105 = .ok (.iaload, 1) := by decide +kernel
theorem gd_Text_compose_106 : decode prog_11_method_4_code 106 = .ok (.invokevirtual 57, 3) := by decide +kernel
theorem gd_Text_compose_109 : decode prog_11_method_4_code 109 = .ok (.ifCond .ne 5, 3) := by decide +kernel
theorem gd_Text_compose_112 : decode prog_11_method_4_code 112 = .ok (.iconst 0, 1) := by decide +kernel
theorem gd_Text_compose_113 : decode prog_11_method_4_code 113 = .ok (.ireturn, 1) := by decide +kernel
theorem gd_Text_compose_114 : decode prog_11_method_4_code 114 = .ok (.iinc 2 1, 3) := by decide +kernel
theorem gd_Text_compose_117 : decode prog_11_method_4_code 117 = .ok (.goto (-79), 3) := by decide +kernel
theorem gd_Text_compose_120 : decode prog_11_method_4_code 120 = .ok (.aload_n 0, 1) := by decide +kernel
theorem gd_Text_compose_121 : decode prog_11_method_4_code 121 = .ok (.getfield 15, 3) := by decide +kernel
theorem gd_Text_compose_124 : decode prog_11_method_4_code 124 = .ok (.iconst 0, 1) := by decide +kernel
theorem gd_Text_compose_125 : decode prog_11_method_4_code 125 = .ok (.aload_n 0, 1) := by decide +kernel
theorem gd_Text_compose_126 : decode prog_11_method_4_code 126 = .ok (.getfield 9, 3) := by decide +kernel
theorem gd_Text_compose_129 : decode prog_11_method_4_code 129 = .ok (.iconst 0, 1) := by decide +kernel
theorem gd_Text_compose_130 : decode prog_11_method_4_code 130 = .ok (.aload_n 0, 1) := by decide +kernel
theorem gd_Text_compose_131 : decode prog_11_method_4_code 131 = .ok (.getfield 41, 3) := by decide +kernel
theorem gd_Text_compose_134 : decode prog_11_method_4_code 134 = .ok (.invokestatic 60, 3) := by decide +kernel
theorem gd_Text_compose_137 : decode prog_11_method_4_code 137 = .ok (.aload_n 0, 1) := by decide +kernel
theorem gd_Text_compose_138 : decode prog_11_method_4_code 138 = .ok (.aload_n 0, 1) := by decide +kernel
theorem gd_Text_compose_139 : decode prog_11_method_4_code 139 = .ok (.getfield 41, 3) := by decide +kernel
theorem gd_Text_compose_142 : decode prog_11_method_4_code 142 = .ok (.putfield 29, 3) := by decide +kernel
theorem gd_Text_compose_145 : decode prog_11_method_4_code 145 = .ok (.iconst 1, 1) := by decide +kernel
theorem gd_Text_compose_146 : decode prog_11_method_4_code 146 = .ok (.ireturn, 1) := by decide +kernel
theorem gd_Text_putRule_0 : decode prog_11_method_6_code 0 = .ok (.iconst 1, 1) := by decide +kernel
theorem gd_Text_putRule_1 : decode prog_11_method_6_code 1 = .ok (.aload_n 0, 1) := by decide +kernel
theorem gd_Text_putRule_2 : decode prog_11_method_6_code 2 = .ok (.getfield 21, 3) := by decide +kernel
theorem gd_Text_putRule_5 : decode prog_11_method_6_code 5 = .ok (.iload_n 1, 1) := by decide +kernel
theorem gd_Text_putRule_6 : decode prog_11_method_6_code 6 = .ok (.invokevirtual 67, 3) := by decide +kernel
theorem gd_Text_putRule_9 : decode prog_11_method_6_code 9 = .ok (.ishl, 1) := by decide +kernel
theorem gd_Text_putRule_10 : decode prog_11_method_6_code 10 = .ok (.iconst 1, 1) := by decide +kernel
theorem gd_Text_putRule_11 : decode prog_11_method_6_code 11 = .ok (.aload_n 0, 1) := by decide +kernel
theorem gd_Text_putRule_12 : decode prog_11_method_6_code 12 = .ok (.getfield 21, 3) := by decide +kernel
theorem gd_Text_putRule_15 : decode prog_11_method_6_code 15 = .ok (.getfield 70, 3) := by decide +kernel
theorem gd_Text_putRule_18 : decode prog_11_method_6_code 18 = .ok (.iload_n 1, 1) := by decide +kernel
theorem gd_Text_putRule_19 : decode prog_11_method_6_code 19 = .ok (.iaload, 1) := by decide +kernel
theorem gd_Text_putRule_20 : decode prog_11_method_6_code 20 = .ok (.ishl, 1) := by decide +kernel
theorem gd_Text_putRule_21 : decode prog_11_method_6_code 21 = .ok (.isub, 1) := by decide +kernel
theorem gd_Text_putRule_22 : decode prog_11_method_6_code 22 = .ok (.istore_n 2, 1) := by decide +kernel
theorem gd_Text_putRule_23 : decode prog_11_method_6_code 23 = .ok (.aload_n 0, 1) := by decide +kernel
theorem gd_Text_putRule_24 : decode prog_11_method_6_code 24 = .ok (.getfield 25, 3) := by decide +kernel
theorem gd_Text_putRule_27 : decode prog_11_method_6_code 27 = .ok (.getfield 73, 3) := by decide +kernel
theorem gd_Text_putRule_30 : decode prog_11_method_6_code 30 = .ok (.iload_n 2, 1) := by decide +kernel
theorem gd_Text_putRule_31 : decode prog_11_method_6_code 31 = .ok (.iand, 1) := by decide +kernel
theorem gd_Text_putRule_32 : decode prog_11_method_6_code 32 = .ok (.istore_n 3, 1) := by decide +kernel
theorem gd_Text_putRule_33 : decode prog_11_method_6_code 33 = .ok (.iload_n 3, 1) := by decide +kernel
theorem gd_Text_putRule_34 : decode prog_11_method_6_code 34 = .ok (.aload_n 0, 1) := by decide +kernel
theorem gd_Text_putRule_35 : decode prog_11_method_6_code 35 = .ok (.iload_n 3, 1) := by decide +kernel
theorem gd_Text_putRule_36 : decode prog_11_method_6_code 36 = .ok (.invokestatic 76, 3) := by decide +kernel
theorem gd_Text_putRule_39 : decode prog_11_method_6_code 39 = .ok (.invokevirtual 81, 3) := by decide +kernel
theorem gd_Text_putRule_42 : decode prog_11_method_6_code 42 = .ok (.invokestatic 84, 3) := by decide +kernel
theorem gd_Text_putRule_45 : decode prog_11_method_6_code 45 = .ok (.istore 4, 2) := by decide +kernel
theorem gd_Text_putRule_47 : decode prog_11_method_6_code 47 = .ok (.iload 4, 2) := by decide +kernel
theorem gd_Text_putRule_49 : decode prog_11_method_6_code 49 = .ok (.ifCond .lt 33, 3) := by decide +kernel
theorem gd_Text_putRule_52 : decode prog_11_method_6_code 52 = .ok (.iload 4, 2) := by decide +kernel
theorem gd_Text_putRule_54 : decode prog_11_method_6_code 54 = .ok (.bipush 20, 2) := by decide +kernel
theorem gd_Text_putRule_56 : decode prog_11_method_6_code 56 = .ok (.if_icmp .ge 26, 3) := by decide +kernel
theorem gd_Text_putRule_59 : decode prog_11_method_6_code 59 = .ok (.aload_n 0, 1) := by decide +kernel
theorem gd_Text_putRule_60 : decode prog_11_method_6_code 60 = .ok (.getfield 44, 3) := by decide +kernel
theorem gd_Text_putRule_63 : decode prog_11_method_6_code 63 = .ok (.aload_n 0, 1) := by decide +kernel
theorem gd_Text_putRule_64 : decode prog_11_method_6_code 64 = .ok (.getfield 21, 3) := by decide +kernel
theorem gd_Text_putRule_67 : decode prog_11_method_6_code 67 = .ok (.getfield 88, 3) := by decide +kernel
theorem gd_Text_putRule_70 : decode prog_11_method_6_code 70 = .ok (.iload 4, 2) := by decide +kernel
theorem gd_Text_putRule_72 : decode prog_11_method_6_code 72 = .ok (.iaload, 1) := by decide +kernel
theorem gd_Text_putRule_73 : decode prog_11_method_6_code 73 = .ok (.iadd, 1) := by decide +kernel
theorem gd_Text_putRule_74 : decode prog_11_method_6_code 74 = .ok (.aload_n 0, 1) := by decide +kernel
theorem gd_Text_putRule_75 : decode prog_11_method_6_code 75 = .ok (.getfield 18, 3) := by decide +kernel
theorem gd_Text_putRule_78 : decode prog_11_method_6_code 78 = .ok (.arraylength, 1) := by decide +kernel
theorem gd_Text_putRule_79 : decode prog_11_method_6_code 79 = .ok (.if_icmp .le 5, 3) := by decide +kernel
theorem gd_Text_putRule_82 : decode prog_11_method_6_code 82 = .ok (.iconst 0, 1) := by decide +kernel
theorem gd_Text_putRule_83 : decode prog_11_method_6_code 83 = .ok (.ireturn, 1) := by decide +kernel
theorem gd_Text_putRule_84 : decode prog_11_method_6_code 84 = .ok (.aload_n 0, 1) := by decide +kernel
theorem gd_Text_putRule_85 : decode prog_11_method_6_code 85 = .ok (.getfield 21, 3) := by decide +kernel
theorem gd_Text_putRule_88 : decode prog_11_method_6_code 88 = .ok (.getfield 88, 3) := by decide +kernel
theorem gd_Text_putRule_91 : decode prog_11_method_6_code 91 = .ok (.iload 4, 2) := by decide +kernel
theorem gd_Text_putRule_93 : decode prog_11_method_6_code 93 = .ok (.iaload, 1) := by decide +kernel
theorem gd_Text_putRule_94 : decode prog_11_method_6_code 94 = .ok (.iconst 1, 1) := by decide +kernel
theorem gd_Text_putRule_95 : decode prog_11_method_6_code 95 = .ok (.isub, 1) := by decide +kernel
theorem gd_Text_putRule_96 : decode prog_11_method_6_code 96 = .ok (.istore 5, 2) := by decide +kernel
theorem gd_Text_putRule_98 : decode prog_11_method_6_code 98 = .ok (.iload 5, 2) := by decide +kernel
theorem gd_Text_putRule_100 : decode prog_11_method_6_code 100 = .ok (.ifCond .lt 39, 3) := by decide +kernel
theorem gd_Text_putRule_103 : decode prog_11_method_6_code 103 = .ok (.aload_n 0, 1) := by decide +kernel
theorem gd_Text_putRule_104 : decode prog_11_method_6_code 104 = .ok (.getfield 18, 3) := by decide +kernel
theorem gd_Text_putRule_107 : decode prog_11_method_6_code 107 = .ok (.aload_n 0, 1) := by decide +kernel
theorem gd_Text_putRule_108 : decode prog_11_method_6_code 108 = .ok (.getfield 44, 3) := by decide +kernel
theorem gd_Text_putRule_111 : decode prog_11_method_6_code 111 = .ok (.aload_n 0, 1) := by decide +kernel
theorem gd_Text_putRule_112 : decode prog_11_method_6_code 112 = .ok (.getfield 21, 3) := by decide +kernel
theorem gd_Text_putRule_115 : decode prog_11_method_6_code 115 = .ok (.iload 4, 2) := by decide +kernel
theorem gd_Text_putRule_117 : decode prog_11_method_6_code 117 = .ok (.iload 5, 2) := by decide +kernel
theorem gd_Text_putRule_119 : decode prog_11_method_6_code 119 = .ok (.invokevirtual 91, 3) := by decide +kernel
theorem gd_Text_putRule_122 : decode prog_11_method_6_code 122 = .ok (.iastore, 1) := by decide +kernel
theorem gd_Text_putRule_123 : decode prog_11_method_6_code 123 = .ok (.aload_n 0, 1) := by decide +kernel
theorem gd_Text_putRule_124 : decode prog_11_method_6_code 124 = .ok (.dup, 1) := by decide +kernel
theorem gd_Text_putRule_125 : decode prog_11_method_6_code 125 = .ok (.getfield 44, 3) := by decide +kernel
theorem gd_Text_putRule_128 : decode prog_11_method_6_code 128 = .ok (.iconst 1, 1) := by decide +kernel
theorem gd_Text_putRule_129 : decode prog_11_method_6_code 129 = .ok (.iadd, 1) := by decide +kernel
theorem gd_Text_putRule_130 : decode prog_11_method_6_code 130 = .ok (.putfield 44, 3) := by decide +kernel
theorem gd_Text_putRule_133 : decode prog_11_method_6_code 133 = .ok (.iinc 5 (-1), 3) := by decide +kernel
theorem gd_Text_putRule_136 : decode prog_11_method_6_code 136 = .ok (.goto (-38), 3) := by decide +kernel
theorem gd_Text_putRule_139 : decode prog_11_method_6_code 139 = .ok (.iconst 1, 1) := by decide +kernel
theorem gd_Text_putRule_140 : decode prog_11_method_6_code 140 = .ok (.ireturn, 1) := by decide +kernel
theorem gd_Text_draw_0 : decode prog_11_method_5_code 0 = .ok (.aload_n 0, 1) := by decide +kernel
theorem gd_Text_draw_1 : decode prog_11_method_5_code 1 = .ok (.sipush 25173, 3) := by decide +kernel
theorem gd_Text_draw_4 : decode prog_11_method_5_code 4 = .ok (.aload_n 0, 1) := by decide +kernel
theorem gd_Text_draw_5 : decode prog_11_method_5_code 5 = .ok (.getfield 38, 3) := by decide +kernel
theorem gd_Text_draw_8 : decode prog_11_method_5_code 8 = .ok (.imul, 1) := by decide +kernel
theorem gd_Text_draw_9 : decode prog_11_method_5_code 9 = .ok (.sipush 13849, 3) := by decide +kernel
theorem gd_Text_draw_12 : decode prog_11_method_5_code 12 = .ok (.iadd, 1) := by decide +kernel
theorem gd_Text_draw_13 : decode prog_11_method_5_code 13 = .ok (.ldc 66, 2) := by decide +kernel
theorem gd_Text_draw_15 : decode prog_11_method_5_code 15 = .ok (.irem, 1) := by decide +kernel
theorem gd_Text_draw_16 : decode prog_11_method_5_code 16 = .ok (.putfield 38, 3) := by decide +kernel
theorem gd_Text_draw_19 : decode prog_11_method_5_code 19 = .ok (.iload_n 1, 1) := by decide +kernel
theorem gd_Text_draw_20 : decode prog_11_method_5_code 20 = .ok (.ifCond .le 15, 3) := by decide +kernel
theorem gd_Text_draw_23 : decode prog_11_method_5_code 23 = .ok (.aload_n 0, 1) := by decide +kernel
theorem gd_Text_draw_24 : decode prog_11_method_5_code 24 = .ok (.getfield 38, 3) := by decide +kernel
theorem gd_Text_draw_27 : decode prog_11_method_5_code 27 = .ok (.bipush 16, 2) := by decide +kernel
theorem gd_Text_draw_29 : decode prog_11_method_5_code 29 = .ok (.idiv, 1) := by decide +kernel
theorem gd_Text_draw_30 : decode prog_11_method_5_code 30 = .ok (.iload_n 1, 1) := by decide +kernel
theorem gd_Text_draw_31 : decode prog_11_method_5_code 31 = .ok (.irem, 1) := by decide +kernel
theorem gd_Text_draw_32 : decode prog_11_method_5_code 32 = .ok (.goto 4, 3) := by decide +kernel
theorem gd_Text_draw_35 : decode prog_11_method_5_code 35 = .ok (.iconst 0, 1) := by decide +kernel
theorem gd_Text_draw_36 : decode prog_11_method_5_code 36 = .ok (.ireturn, 1) := by decide +kernel
theorem gd_Text_bitAt_0 : decode prog_11_method_8_code 0 = .ok (.iload_n 1, 1) := by decide +kernel
theorem gd_Text_bitAt_1 : decode prog_11_method_8_code 1 = .ok (.istore_n 2, 1) := by decide +kernel
theorem gd_Text_bitAt_2 : decode prog_11_method_8_code 2 = .ok (.iconst 0, 1) := by decide +kernel
theorem gd_Text_bitAt_3 : decode prog_11_method_8_code 3 = .ok (.istore_n 3, 1) := by decide +kernel
theorem gd_Text_bitAt_4 : decode prog_11_method_8_code 4 = .ok (.iload_n 3, 1) := by decide +kernel
theorem gd_Text_bitAt_5 : decode prog_11_method_8_code 5 = .ok (.bipush 26, 2) := by decide +kernel
theorem gd_Text_bitAt_7 : decode prog_11_method_8_code 7 = .ok (.if_icmp .ge 26, 3) := by decide +kernel
theorem gd_Text_bitAt_10 : decode prog_11_method_8_code 10 = .ok (.iload_n 0, 1) := by decide +kernel
theorem gd_Text_bitAt_11 : decode prog_11_method_8_code 11 = .ok (.iload_n 3, 1) := by decide +kernel
theorem gd_Text_bitAt_12 : decode prog_11_method_8_code 12 = .ok (.ishr, 1) := by decide +kernel
theorem gd_Text_bitAt_13 : decode prog_11_method_8_code 13 = .ok (.iconst 1, 1) := by decide +kernel
theorem gd_Text_bitAt_14 : decode prog_11_method_8_code 14 = .ok (.iand, 1) := by decide +kernel
theorem gd_Text_bitAt_15 : decode prog_11_method_8_code 15 = .ok (.ifCond .eq 12, 3) := by decide +kernel
theorem gd_Text_bitAt_18 : decode prog_11_method_8_code 18 = .ok (.iload_n 2, 1) := by decide +kernel
theorem gd_Text_bitAt_19 : decode prog_11_method_8_code 19 = .ok (.ifCond .ne 5, 3) := by decide +kernel
theorem gd_Text_bitAt_22 : decode prog_11_method_8_code 22 = .ok (.iload_n 3, 1) := by decide +kernel
theorem gd_Text_bitAt_23 : decode prog_11_method_8_code 23 = .ok (.ireturn, 1) := by decide +kernel
theorem gd_Text_bitAt_24 : decode prog_11_method_8_code 24 = .ok (.iinc 2 (-1), 3) := by decide +kernel
theorem gd_Text_bitAt_27 : decode prog_11_method_8_code 27 = .ok (.iinc 3 1, 3) := by decide +kernel
theorem gd_Text_bitAt_30 : decode prog_11_method_8_code 30 = .ok (.goto (-26), 3) := by decide +kernel
theorem gd_Text_bitAt_33 : decode prog_11_method_8_code 33 = .ok (.iconst (-1), 1) := by decide +kernel
theorem gd_Text_bitAt_34 : decode prog_11_method_8_code 34 = .ok (.ireturn, 1) := by decide +kernel
theorem gd_Text_putLetter_0 : decode prog_11_method_7_code 0 = .ok (.iload_n 1, 1) := by decide +kernel
theorem gd_Text_putLetter_1 : decode prog_11_method_7_code 1 = .ok (.aload_n 0, 1) := by decide +kernel
theorem gd_Text_putLetter_2 : decode prog_11_method_7_code 2 = .ok (.iload_n 1, 1) := by decide +kernel
theorem gd_Text_putLetter_3 : decode prog_11_method_7_code 3 = .ok (.invokestatic 76, 3) := by decide +kernel
theorem gd_Text_putLetter_6 : decode prog_11_method_7_code 6 = .ok (.invokevirtual 81, 3) := by decide +kernel
theorem gd_Text_putLetter_9 : decode prog_11_method_7_code 9 = .ok (.invokestatic 84, 3) := by decide +kernel
theorem gd_Text_putLetter_12 : decode prog_11_method_7_code 12 = .ok (.istore_n 2, 1) := by decide +kernel
theorem gd_Text_putLetter_13 : decode prog_11_method_7_code 13 = .ok (.iload_n 2, 1) := by decide +kernel
theorem gd_Text_putLetter_14 : decode prog_11_method_7_code 14 = .ok (.iconst (-1), 1) := by decide +kernel
theorem gd_Text_putLetter_15 : decode prog_11_method_7_code 15 = .ok (.if_icmp .eq 12, 3) := by decide +kernel
theorem gd_Text_putLetter_18 : decode prog_11_method_7_code 18 = .ok (.aload_n 0, 1) := by decide +kernel
theorem gd_Text_putLetter_19 : decode prog_11_method_7_code 19 = .ok (.getfield 41, 3) := by decide +kernel
theorem gd_Text_putLetter_22 : decode prog_11_method_7_code 22 = .ok (.bipush 8, 2) := by decide +kernel
theorem gd_Text_putLetter_24 : decode prog_11_method_7_code 24 = .ok (.if_icmp .lt 5, 3) := by decide +kernel
theorem gd_Text_putLetter_27 : decode prog_11_method_7_code 27 = .ok (.iconst 0, 1) := by decide +kernel
theorem gd_Text_putLetter_28 : decode prog_11_method_7_code 28 = .ok (.ireturn, 1) := by decide +kernel
theorem gd_Text_putLetter_29 : decode prog_11_method_7_code 29 = .ok (.aload_n 0, 1) := by decide +kernel
theorem gd_Text_putLetter_30 : decode prog_11_method_7_code 30 = .ok (.getfield 15, 3) := by decide +kernel
theorem gd_Text_putLetter_33 : decode prog_11_method_7_code 33 = .ok (.aload_n 0, 1) := by decide +kernel
theorem gd_Text_putLetter_34 : decode prog_11_method_7_code 34 = .ok (.getfield 41, 3) := by decide +kernel
theorem gd_Text_putLetter_37 : decode prog_11_method_7_code 37 = .ok (.iload_n 2, 1) := by decide +kernel
theorem gd_Text_putLetter_38 : decode prog_11_method_7_code 38 = .ok (.iastore, 1) := by decide +kernel
theorem gd_Text_putLetter_39 : decode prog_11_method_7_code 39 = .ok (.aload_n 0, 1) := by decide +kernel
theorem gd_Text_putLetter_40 : decode prog_11_method_7_code 40 = .ok (.dup, 1) := by decide +kernel
theorem gd_Text_putLetter_41 : decode prog_11_method_7_code 41 = .ok (.getfield 41, 3) := by decide +kernel
theorem gd_Text_putLetter_44 : decode prog_11_method_7_code 44 = .ok (.iconst 1, 1) := by decide +kernel
theorem gd_Text_putLetter_45 : decode prog_11_method_7_code 45 = .ok (.iadd, 1) := by decide +kernel
theorem gd_Text_putLetter_46 : decode prog_11_method_7_code 46 = .ok (.putfield 41, 3) := by decide +kernel
theorem gd_Text_putLetter_49 : decode prog_11_method_7_code 49 = .ok (.iconst 1, 1) := by decide +kernel
theorem gd_Text_putLetter_50 : decode prog_11_method_7_code 50 = .ok (.ireturn, 1) := by decide +kernel
theorem gd_House_accepts_0 : decode prog_1_method_19_code 0 = .ok (.aload_n 0, 1) := by decide +kernel
theorem gd_House_accepts_1 : decode prog_1_method_19_code 1 = .ok (.getfield 129, 3) := by decide +kernel
theorem gd_House_accepts_4 : decode prog_1_method_19_code 4 = .ok (.ifCond .ne 7, 3) := by decide +kernel
theorem gd_House_accepts_7 : decode prog_1_method_19_code 7 = .ok (.sipush (-1003), 3) := by decide +kernel
theorem gd_House_accepts_10 : decode prog_1_method_19_code 10 = .ok (.ireturn, 1) := by decide +kernel
theorem gd_House_accepts_11 : decode prog_1_method_19_code 11 = .ok (.aload_n 0, 1) := by decide +kernel
theorem gd_House_accepts_12 : decode prog_1_method_19_code 12 = .ok (.iload_n 1, 1) := by decide +kernel
theorem gd_House_accepts_13 : decode prog_1_method_19_code 13 = .ok (.invokevirtual 221, 3) := by decide +kernel
theorem gd_House_accepts_16 : decode prog_1_method_19_code 16 = .ok (.ifCond .ne 7, 3) := by decide +kernel
theorem gd_House_accepts_19 : decode prog_1_method_19_code 19 = .ok (.sipush (-1001), 3) := by decide +kernel
theorem gd_House_accepts_22 : decode prog_1_method_19_code 22 = .ok (.ireturn, 1) := by decide +kernel
theorem gd_House_accepts_23 : decode prog_1_method_19_code 23 = .ok (.aload_n 0, 1) := by decide +kernel
theorem gd_House_accepts_24 : decode prog_1_method_19_code 24 = .ok (.getfield 55, 3) := by decide +kernel
theorem gd_House_accepts_27 : decode prog_1_method_19_code 27 = .ok (.invokevirtual 224, 3) := by decide +kernel
theorem gd_House_accepts_30 : decode prog_1_method_19_code 30 = .ok (.aload_n 0, 1) := by decide +kernel
theorem gd_House_accepts_31 : decode prog_1_method_19_code 31 = .ok (.getfield 55, 3) := by decide +kernel
theorem gd_House_accepts_34 : decode prog_1_method_19_code 34 = .ok (.iconst 0, 1) := by decide +kernel
theorem gd_House_accepts_35 : decode prog_1_method_19_code 35 = .ok (.iconst 0, 1) := by decide +kernel
theorem gd_House_accepts_36 : decode prog_1_method_19_code 36 = .ok (.iload_n 1, 1) := by decide +kernel
theorem gd_House_accepts_37 : decode prog_1_method_19_code 37 = .ok (.invokevirtual 227, 3) := by decide +kernel
theorem gd_House_accepts_40 : decode prog_1_method_19_code 40 = .ok (.ifCond .eq 7, 3) := by decide +kernel
theorem gd_House_accepts_43 : decode prog_1_method_19_code 43 = .ok (.iconst 1, 1) := by decide +kernel
theorem gd_House_accepts_44 : decode prog_1_method_19_code 44 = .ok (.goto 4, 3) := by decide +kernel
theorem gd_House_accepts_47 : decode prog_1_method_19_code 47 = .ok (.iconst 0, 1) := by decide +kernel
theorem gd_House_accepts_48 : decode prog_1_method_19_code 48 = .ok (.ireturn, 1) := by decide +kernel
theorem gd_House_isPlace_0 : decode prog_1_method_36_code 0 = .ok (.iload_n 1, 1) := by decide +kernel
theorem gd_House_isPlace_1 : decode prog_1_method_36_code 1 = .ok (.ifCond .lt 18, 3) := by decide +kernel
theorem gd_House_isPlace_4 : decode prog_1_method_36_code 4 = .ok (.iload_n 1, 1) := by decide +kernel
theorem gd_House_isPlace_5 : decode prog_1_method_36_code 5 = .ok (.aload_n 0, 1) := by decide +kernel
theorem gd_House_isPlace_6 : decode prog_1_method_36_code 6 = .ok (.getfield 46, 3) := by decide +kernel
theorem gd_House_isPlace_9 : decode prog_1_method_36_code 9 = .ok (.getfield 133, 3) := by decide +kernel
theorem gd_House_isPlace_12 : decode prog_1_method_36_code 12 = .ok (.if_icmp .gt 7, 3) := by decide +kernel
theorem gd_House_isPlace_15 : decode prog_1_method_36_code 15 = .ok (.iconst 1, 1) := by decide +kernel
theorem gd_House_isPlace_16 : decode prog_1_method_36_code 16 = .ok (.goto 4, 3) := by decide +kernel
theorem gd_House_isPlace_19 : decode prog_1_method_36_code 19 = .ok (.iconst 0, 1) := by decide +kernel
theorem gd_House_isPlace_20 : decode prog_1_method_36_code 20 = .ok (.ireturn, 1) := by decide +kernel
theorem gd_Chart_refresh_0 : decode prog_2_method_4_code 0 = .ok (.aload_n 0, 1) := by decide +kernel
theorem gd_Chart_refresh_1 : decode prog_2_method_4_code 1 = .ok (.getfield 48, 3) := by decide +kernel
theorem gd_Chart_refresh_4 : decode prog_2_method_4_code 4 = .ok (.ifCond .eq 4, 3) := by decide +kernel
theorem gd_Chart_refresh_7 : decode prog_2_method_4_code 7 = .ok (.return_, 1) := by decide +kernel
theorem gd_Chart_refresh_8 : decode prog_2_method_4_code 8 = .ok (.aload_n 0, 1) := by decide +kernel
theorem gd_Chart_refresh_9 : decode prog_2_method_4_code 9 = .ok (.iconst 1, 1) := by decide +kernel
theorem gd_Chart_refresh_10 : decode prog_2_method_4_code 10 = .ok (.putfield 48, 3) := by decide +kernel
theorem gd_Chart_refresh_13 : decode prog_2_method_4_code 13 = .ok (.aload_n 0, 1) := by decide +kernel
theorem gd_Chart_refresh_14 : decode prog_2_method_4_code 14 = .ok (.getfield 9, 3) := by decide +kernel
theorem gd_Chart_refresh_17 : decode prog_2_method_4_code 17 = .ok (.iconst 0, 1) := by decide +kernel
theorem gd_Chart_refresh_18 : decode prog_2_method_4_code 18 = .ok (.invokestatic 52, 3) := by decide +kernel
theorem gd_Chart_refresh_21 : decode prog_2_method_4_code 21 = .ok (.aload_n 0, 1) := by decide +kernel
theorem gd_Chart_refresh_22 : decode prog_2_method_4_code 22 = .ok (.getfield 35, 3) := by decide +kernel
theorem gd_Chart_refresh_25 : decode prog_2_method_4_code 25 = .ok (.getfield 58, 3) := by decide +kernel
theorem gd_Chart_refresh_28 : decode prog_2_method_4_code 28 = .ok (.istore_n 1, 1) := by decide +kernel
theorem gd_Chart_refresh_29 : decode prog_2_method_4_code 29 = .ok (.iload_n 1, 1) := by decide +kernel
theorem gd_Chart_refresh_30 : decode prog_2_method_4_code 30 = .ok (.ifCond .lt 14, 3) := by decide +kernel
theorem gd_Chart_refresh_33 : decode prog_2_method_4_code 33 = .ok (.aload_n 0, 1) := by decide +kernel
theorem gd_Chart_refresh_34 : decode prog_2_method_4_code 34 = .ok (.iload_n 1, 1) := by decide +kernel
theorem gd_Chart_refresh_35 : decode prog_2_method_4_code 35 = .ok (.invokevirtual 64, 3) := by decide +kernel
theorem gd_Chart_refresh_38 : decode prog_2_method_4_code 38 = .ok (.iinc 1 (-1), 3) := by decide +kernel
theorem gd_Chart_refresh_41 : decode prog_2_method_4_code 41 = .ok (.goto (-12), 3) := by decide +kernel
theorem gd_Chart_refresh_44 : decode prog_2_method_4_code 44 = .ok (.aload_n 0, 1) := by decide +kernel
theorem gd_Chart_refresh_45 : decode prog_2_method_4_code 45 = .ok (.getfield 21, 3) := by decide +kernel
theorem gd_Chart_refresh_48 : decode prog_2_method_4_code 48 = .ok (.iconst 0, 1) := by decide +kernel
theorem gd_Chart_refresh_49 : decode prog_2_method_4_code 49 = .ok (.invokestatic 52, 3) := by decide +kernel
theorem gd_Chart_refresh_52 : decode prog_2_method_4_code 52 = .ok (.aload_n 0, 1) := by decide +kernel
theorem gd_Chart_refresh_53 : decode prog_2_method_4_code 53 = .ok (.getfield 24, 3) := by decide +kernel
theorem gd_Chart_refresh_56 : decode prog_2_method_4_code 56 = .ok (.iconst 0, 1) := by decide +kernel
theorem gd_Chart_refresh_57 : decode prog_2_method_4_code 57 = .ok (.invokestatic 52, 3) := by decide +kernel
theorem gd_Chart_refresh_60 : decode prog_2_method_4_code 60 = .ok (.aload_n 0, 1) := by decide +kernel
theorem gd_Chart_refresh_61 : decode prog_2_method_4_code 61 = .ok (.aload_n 0, 1) := by decide +kernel
theorem gd_Chart_refresh_62 : decode prog_2_method_4_code 62 = .ok (.getfield 15, 3) := by decide +kernel
theorem gd_Chart_refresh_65 : decode prog_2_method_4_code 65 = .ok (.iconst 0, 1) := by decide +kernel
theorem gd_Chart_refresh_66 : decode prog_2_method_4_code 66 = .ok (.invokevirtual 68, 3) := by decide +kernel
theorem gd_Chart_refresh_69 : decode prog_2_method_4_code 69 = .ok (.aload_n 0, 1) := by decide +kernel
theorem gd_Chart_refresh_70 : decode prog_2_method_4_code 70 = .ok (.aload_n 0, 1) := by decide +kernel
theorem gd_Chart_refresh_71 : decode prog_2_method_4_code 71 = .ok (.getfield 18, 3) := by decide +kernel
theorem gd_Chart_refresh_74 : decode prog_2_method_4_code 74 = .ok (.iconst 1, 1) := by decide +kernel
theorem gd_Chart_refresh_75 : decode prog_2_method_4_code 75 = .ok (.invokevirtual 68, 3) := by decide +kernel
theorem gd_Chart_refresh_78 : decode prog_2_method_4_code 78 = .ok (.iconst 0, 1) := by decide +kernel
theorem gd_Chart_refresh_79 : decode prog_2_method_4_code 79 = .ok (.istore_n 1, 1) := by decide +kernel
theorem gd_Chart_refresh_80 : decode prog_2_method_4_code 80 = .ok (.iload_n 1, 1) := by decide +kernel
theorem gd_Chart_refresh_81 : decode prog_2_method_4_code 81 = .ok (.aload_n 0, 1) := by decide +kernel
theorem gd_Chart_refresh_82 : decode prog_2_method_4_code 82 = .ok (.getfield 35, 3) := by decide +kernel
theorem gd_Chart_refresh_85 : decode prog_2_method_4_code 85 = .ok (.getfield 58, 3) := by decide +kernel
theorem gd_Chart_refresh_88 : decode prog_2_method_4_code 88 = .ok (.if_icmp .gt 31, 3) := by decide +kernel
theorem gd_Chart_refresh_91 : decode prog_2_method_4_code 91 = .ok (.aload_n 0, 1) := by decide +kernel
theorem gd_Chart_refresh_92 : decode prog_2_method_4_code 92 = .ok (.getfield 24, 3) := by decide +kernel
theorem gd_Chart_refresh_95 : decode prog_2_method_4_code 95 = .ok (.iload_n 1, 1) := by decide +kernel
theorem gd_Chart_refresh_96 : decode prog_2_method_4_code 96 = .ok (.dup2, 1) := by decide +kernel
theorem gd_Chart_refresh_97 : decode prog_2_method_4_code 97 = .ok (.iaload, 1) := by decide +kernel
theorem gd_Chart_refresh_98 : decode prog_2_method_4_code 98 = .ok (.aload_n 0, 1) := by decide +kernel
theorem gd_Chart_refresh_99 : decode prog_2_method_4_code 99 = .ok (.getfield 9, 3) := by decide +kernel
theorem gd_Chart_refresh_102 : decode prog_2_method_4_code 102 = .ok (.iconst 0, 1) := by decide +kernel
theorem gd_Chart_refresh_103 : decode prog_2_method_4_code 103 = .ok (.iaload, 1) := by decide +kernel
theorem gd_Chart_refresh_104 : decode prog_2_method_4_code 104 = .ok (.iload_n 1, 1) := by decide +kernel
theorem gd_Chart_refresh_105 : decode prog_2_method_4_code 105 = .ok (.ishr, 1) := by decide +kernel
theorem gd_Chart_refresh_106 : decode prog_2_method_4_code 106 = .ok (.iconst 1, 1) := by decide +kernel
theorem gd_Chart_refresh_107 : decode prog_2_method_4_code 107 = .ok (.iand, 1) := by decide +kernel
theorem gd_Chart_refresh_108 : decode prog_2_method_4_code 108 = .ok (.bipush 26, 2) := by decide +kernel
theorem gd_Chart_refresh_110 : decode prog_2_method_4_code 110 = .ok (.ishl, 1) := by decide +kernel
theorem gd_Chart_refresh_111 : decode prog_2_method_4_code 111 = .ok (.ior, 1) := by decide +kernel
theorem gd_Chart_refresh_112 : decode prog_2_method_4_code 112 = .ok (.iastore, 1) := by decide +kernel
theorem gd_Chart_refresh_113 : decode prog_2_method_4_code 113 = .ok (.iinc 1 1, 3) := by decide +kernel
theorem gd_Chart_refresh_116 : decode prog_2_method_4_code 116 = .ok (.goto (-36), 3) := by decide +kernel
theorem gd_Chart_refresh_119 : decode prog_2_method_4_code 119 = .ok (.return_, 1) := by decide +kernel
theorem gd_Chart_findEnds_0 : decode prog_2_method_5_code 0 = .ok (.iconst 1, 1) := by decide +kernel
theorem gd_Chart_findEnds_1 : decode prog_2_method_5_code 1 = .ok (.istore_n 2, 1) := by decide +kernel
theorem gd_Chart_findEnds_2 : decode prog_2_method_5_code 2 = .ok (.iconst 0, 1) := by decide +kernel
theorem gd_Chart_findEnds_3 : decode prog_2_method_5_code 3 = .ok (.istore_n 3, 1) := by decide +kernel
theorem gd_Chart_findEnds_4 : decode prog_2_method_5_code 4 = .ok (.iload_n 2, 1) := by decide +kernel
theorem gd_Chart_findEnds_5 : decode prog_2_method_5_code 5 = .ok (.ifCond .eq 113, 3) := by decide +kernel
theorem gd_Chart_findEnds_8 : decode prog_2_method_5_code 8 = .ok (.iload_n 3, 1) := by decide +kernel
theorem gd_Chart_findEnds_9 : decode prog_2_method_5_code 9 = .ok (.bipush 72, 2) := by decide +kernel
theorem gd_Chart_findEnds_11 : decode prog_2_method_5_code 11 = .ok (.if_icmp .gt 107, 3) := by decide +kernel
theorem gd_Chart_findEnds_14 : decode prog_2_method_5_code 14 = .ok (.iconst 0, 1) := by decide +kernel
theorem gd_Chart_findEnds_15 : decode prog_2_method_5_code 15 = .ok (.istore_n 2, 1) := by decide +kernel
theorem gd_Chart_findEnds_16 : decode prog_2_method_5_code 16 = .ok (.iconst 0, 1) := by decide +kernel
theorem gd_Chart_findEnds_17 : decode prog_2_method_5_code 17 = .ok (.istore 4, 2) := by decide +kernel
theorem gd_Chart_findEnds_19 : decode prog_2_method_5_code 19 = .ok (.iload 4, 2) := by decide +kernel
theorem gd_Chart_findEnds_21 : decode prog_2_method_5_code 21 = .ok (.aload_n 0, 1) := by decide +kernel
theorem gd_Chart_findEnds_22 : decode prog_2_method_5_code 22 = .ok (.getfield 27, 3) := by decide +kernel
theorem gd_Chart_findEnds_25 : decode prog_2_method_5_code 25 = .ok (.getfield 72, 3) := by decide +kernel
theorem gd_Chart_findEnds_28 : decode prog_2_method_5_code 28 = .ok (.if_icmp .ge 84, 3) := by decide +kernel
theorem gd_Chart_findEnds_31 : decode prog_2_method_5_code 31 = .ok (.aload_n 0, 1) := by decide +kernel
theorem gd_Chart_findEnds_32 : decode prog_2_method_5_code 32 = .ok (.getfield 27, 3) := by decide +kernel
theorem gd_Chart_findEnds_35 : decode prog_2_method_5_code 35 = .ok (.getfield 39, 3) := by decide +kernel
theorem gd_Chart_findEnds_38 : decode prog_2_method_5_code 38 = .ok (.iload 4, 2) := by decide +kernel
theorem gd_Chart_findEnds_40 : decode prog_2_method_5_code 40 = .ok (.iaload, 1) := by decide +kernel
theorem gd_Chart_findEnds_41 : decode prog_2_method_5_code 41 = .ok (.bipush 9, 2) := by decide +kernel
theorem gd_Chart_findEnds_43 : decode prog_2_method_5_code 43 = .ok (.imul, 1) := by decide +kernel
theorem gd_Chart_findEnds_44 : decode prog_2_method_5_code 44 = .ok (.iload_n 1, 1) := by decide +kernel
theorem gd_Chart_findEnds_45 : decode prog_2_method_5_code 45 = .ok (.iadd, 1) := by decide +kernel
theorem gd_Chart_findEnds_46 : decode prog_2_method_5_code 46 = .ok (.istore 5, 2) := by decide +kernel
theorem gd_Chart_findEnds_48 : decode prog_2_method_5_code 48 = .ok (.aload_n 0, 1) := by decide +kernel
theorem gd_Chart_findEnds_49 : decode prog_2_method_5_code 49 = .ok (.getfield 9, 3) := by decide +kernel
theorem gd_Chart_findEnds_52 : decode prog_2_method_5_code 52 = .ok (.iload 5, 2) := by decide +kernel
theorem gd_Chart_findEnds_54 : decode prog_2_method_5_code 54 = .ok (.iaload, 1) := by decide +kernel
theorem gd_Chart_findEnds_55 : decode prog_2_method_5_code 55 = .ok (.aload_n 0, 1) := by decide +kernel
theorem gd_Chart_findEnds_56 : decode prog_2_method_5_code 56 = .ok (.iload 4, 2) := by decide +kernel
theorem gd_Chart_findEnds_58 : decode prog_2_method_5_code 58 = .ok (.aload_n 0, 1) := by decide +kernel
theorem gd_Chart_findEnds_59 : decode prog_2_method_5_code 59 = .ok (.getfield 27, 3) := by decide +kernel
theorem gd_Chart_findEnds_62 : decode prog_2_method_5_code 62 = .ok (.getfield 75, 3) := by decide +kernel
theorem gd_Chart_findEnds_65 : decode prog_2_method_5_code 65 = .ok (.iload 4, 2) := by decide +kernel
theorem gd_Chart_findEnds_67 : decode prog_2_method_5_code 67 = .ok (.iaload, 1) := by decide +kernel
theorem gd_Chart_findEnds_68 : decode prog_2_method_5_code 68 = .ok (.iload_n 1, 1) := by decide +kernel
theorem gd_Chart_findEnds_69 : decode prog_2_method_5_code 69 = .ok (.invokevirtual 44, 3) := by decide +kernel
theorem gd_Chart_findEnds_72 : decode prog_2_method_5_code 72 = .ok (.ior, 1) := by decide +kernel
theorem gd_Chart_findEnds_73 : decode prog_2_method_5_code 73 = .ok (.istore 6, 2) := by decide +kernel
theorem gd_Chart_findEnds_75 : decode prog_2_method_5_code 75 = .ok (.iload_n 2, 1) := by decide +kernel
theorem gd_Chart_findEnds_76 : decode prog_2_method_5_code 76 = .ok (.ifCond .ne 15, 3) := by decide +kernel
theorem gd_Chart_findEnds_79 : decode prog_2_method_5_code 79 = .ok (.iload 6, 2) := by decide +kernel
theorem gd_Chart_findEnds_81 : decode prog_2_method_5_code 81 = .ok (.aload_n 0, 1) := by decide +kernel
theorem gd_Chart_findEnds_82 : decode prog_2_method_5_code 82 = .ok (.getfield 9, 3) := by decide +kernel
theorem gd_Chart_findEnds_85 : decode prog_2_method_5_code 85 = .ok (.iload 5, 2) := by decide +kernel
theorem gd_Chart_findEnds_87 : decode prog_2_method_5_code 87 = .ok (.iaload, 1) := by decide +kernel
theorem gd_Chart_findEnds_88 : decode prog_2_method_5_code 88 = .ok (.if_icmp .eq 7, 3) := by decide +kernel
theorem gd_Chart_findEnds_91 : decode prog_2_method_5_code 91 = .ok (.iconst 1, 1) := by decide +kernel
theorem gd_Chart_findEnds_92 : decode prog_2_method_5_code 92 = .ok (.goto 4, 3) := by decide +kernel
theorem gd_Chart_findEnds_95 : decode prog_2_method_5_code 95 = .ok (.iconst 0, 1) := by decide +kernel
theorem gd_Chart_findEnds_96 : decode prog_2_method_5_code 96 = .ok (.istore_n 2, 1) := by decide +kernel
theorem gd_Chart_findEnds_97 : decode prog_2_method_5_code 97 = .ok (.aload_n 0, 1) := by decide +kernel
theorem gd_Chart_findEnds_98 : decode prog_2_method_5_code 98 = .ok (.getfield 9, 3) := by decide +kernel
theorem gd_Chart_findEnds_101 : decode prog_2_method_5_code 101 = .ok (.iload 5, 2) := by decide +kernel
theorem gd_Chart_findEnds_103 : decode prog_2_method_5_code 103 = .ok (.iload 6, 2) := by decide +kernel
theorem gd_Chart_findEnds_105 : decode prog_2_method_5_code 105 = .ok (.iastore, 1) := by decide +kernel
theorem gd_Chart_findEnds_106 : decode prog_2_method_5_code 106 = .ok (.iinc 4 1, 3) := by decide +kernel
theorem gd_Chart_findEnds_109 : decode prog_2_method_5_code 109 = .ok (.goto (-90), 3) := by decide +kernel
theorem gd_Chart_findEnds_112 : decode prog_2_method_5_code 112 = .ok (.iinc 3 1, 3) := by decide +kernel
theorem gd_Chart_findEnds_115 : decode prog_2_method_5_code 115 = .ok (.goto (-111), 3) := by decide +kernel
theorem gd_Chart_findEnds_118 : decode prog_2_method_5_code 118 = .ok (.return_, 1) := by decide +kernel
theorem gd_Chart_endsOfRow_0 : decode prog_2_method_6_code 0 = .ok (.iconst 1, 1) := by decide +kernel
theorem gd_Chart_endsOfRow_1 : decode prog_2_method_6_code 1 = .ok (.iload_n 3, 1) := by decide +kernel
theorem gd_Chart_endsOfRow_2 : decode prog_2_method_6_code 2 = .ok (.ishl, 1) := by decide +kernel
theorem gd_Chart_endsOfRow_3 : decode prog_2_method_6_code 3 = .ok (.istore 4, 2) := by decide +kernel
theorem gd_Chart_endsOfRow_5 : decode prog_2_method_6_code 5 = .ok (.iconst 0, 1) := by decide +kernel
theorem gd_Chart_endsOfRow_6 : decode prog_2_method_6_code 6 = .ok (.istore 5, 2) := by decide +kernel
theorem gd_Chart_endsOfRow_8 : decode prog_2_method_6_code 8 = .ok (.iload 5, 2) := by decide +kernel
theorem gd_Chart_endsOfRow_10 : decode prog_2_method_6_code 10 = .ok (.iload_n 2, 1) := by decide +kernel
theorem gd_Chart_endsOfRow_11 : decode prog_2_method_6_code 11 = .ok (.if_icmp .ge 32, 3) := by decide +kernel
theorem gd_Chart_endsOfRow_14 : decode prog_2_method_6_code 14 = .ok (.iload 4, 2) := by decide +kernel
theorem gd_Chart_endsOfRow_16 : decode prog_2_method_6_code 16 = .ok (.ifCond .eq 27, 3) := by decide +kernel
theorem gd_Chart_endsOfRow_19 : decode prog_2_method_6_code 19 = .ok (.aload_n 0, 1) := by decide +kernel
theorem gd_Chart_endsOfRow_20 : decode prog_2_method_6_code 20 = .ok (.aload_n 0, 1) := by decide +kernel
theorem gd_Chart_endsOfRow_21 : decode prog_2_method_6_code 21 = .ok (.getfield 27, 3) := by decide +kernel
theorem gd_Chart_endsOfRow_24 : decode prog_2_method_6_code 24 = .ok (.iload_n 1, 1) := by decide +kernel
theorem gd_Chart_endsOfRow_25 : decode prog_2_method_6_code 25 = .ok (.iload 5, 2) := by decide +kernel
theorem gd_Chart_endsOfRow_27 : decode prog_2_method_6_code 27 = .ok (.invokevirtual 78, 3) := by decide +kernel
theorem gd_Chart_endsOfRow_30 : decode prog_2_method_6_code 30 = .ok (.iload 4, 2) := by decide +kernel
theorem gd_Chart_endsOfRow_32 : decode prog_2_method_6_code 32 = .ok (.invokevirtual 82, 3) := by decide +kernel
theorem gd_Chart_endsOfRow_35 : decode prog_2_method_6_code 35 = .ok (.istore 4, 2) := by decide +kernel
theorem gd_Chart_endsOfRow_37 : decode prog_2_method_6_code 37 = .ok (.iinc 5 1, 3) := by decide +kernel
theorem gd_Chart_endsOfRow_40 : decode prog_2_method_6_code 40 = .ok (.goto (-32), 3) := by decide +kernel
theorem gd_Chart_endsOfRow_43 : decode prog_2_method_6_code 43 = .ok (.iload 4, 2) := by decide +kernel
theorem gd_Chart_endsOfRow_45 : decode prog_2_method_6_code 45 = .ok (.ireturn, 1) := by decide +kernel
theorem gd_Chart_beyond_0 : decode prog_2_method_7_code 0 = .ok (.aload_n 0, 1) := by decide +kernel
theorem gd_Chart_beyond_1 : decode prog_2_method_7_code 1 = .ok (.getfield 27, 3) := by decide +kernel
theorem gd_Chart_beyond_4 : decode prog_2_method_7_code 4 = .ok (.iload_n 1, 1) := by decide +kernel
theorem gd_Chart_beyond_5 : decode prog_2_method_7_code 5 = .ok (.invokevirtual 85, 3) := by decide +kernel
theorem gd_Chart_beyond_8 : decode prog_2_method_7_code 8 = .ok (.istore_n 3, 1) := by decide +kernel
theorem gd_Chart_beyond_9 : decode prog_2_method_7_code 9 = .ok (.iconst 0, 1) := by decide +kernel
theorem gd_Chart_beyond_10 : decode prog_2_method_7_code 10 = .ok (.istore 4, 2) := by decide +kernel
theorem gd_Chart_beyond_12 : decode prog_2_method_7_code 12 = .ok (.iconst 0, 1) := by decide +kernel
theorem gd_Chart_beyond_13 : decode prog_2_method_7_code 13 = .ok (.istore 5, 2) := by decide +kernel
theorem gd_Chart_beyond_15 : decode prog_2_method_7_code 15 = .ok (.iload 5, 2) := by decide +kernel
theorem gd_Chart_beyond_17 : decode prog_2_method_7_code 17 = .ok (.aload_n 0, 1) := by decide +kernel
theorem gd_Chart_beyond_18 : decode prog_2_method_7_code 18 = .ok (.getfield 35, 3) := by decide +kernel
theorem gd_Chart_beyond_21 : decode prog_2_method_7_code 21 = .ok (.getfield 58, 3) := by decide +kernel
theorem gd_Chart_beyond_24 : decode prog_2_method_7_code 24 = .ok (.if_icmp .gt 67, 3) := by decide +kernel
theorem gd_Chart_beyond_27 : decode prog_2_method_7_code 27 = .ok (.iload_n 2, 1) := by decide +kernel
theorem gd_Chart_beyond_28 : decode prog_2_method_7_code 28 = .ok (.iload 5, 2) := by decide +kernel
theorem gd_Chart_beyond_30 : decode prog_2_method_7_code 30 = .ok (.ishr, 1) := by decide +kernel
theorem gd_Chart_beyond_31 : decode prog_2_method_7_code 31 = .ok (.iconst 1, 1) := by decide +kernel
theorem gd_Chart_beyond_32 : decode prog_2_method_7_code 32 = .ok (.iand, 1) := by decide +kernel
theorem gd_Chart_beyond_33 : decode prog_2_method_7_code 33 = .ok (.ifCond .eq 52, 3) := by decide +kernel
theorem gd_Chart_beyond_36 : decode prog_2_method_7_code 36 = .ok (.iload_n 3, 1) := by decide +kernel
theorem gd_Chart_beyond_37 : decode prog_2_method_7_code 37 = .ok (.iconst (-1), 1) := by decide +kernel
theorem gd_Chart_beyond_38 : decode prog_2_method_7_code 38 = .ok (.if_icmp .eq 23, 3) := by decide +kernel
theorem gd_Chart_beyond_41 : decode prog_2_method_7_code 41 = .ok (.iload 4, 2) := by decide +kernel
theorem gd_Chart_beyond_43 : decode prog_2_method_7_code 43 = .ok (.aload_n 0, 1) := by decide +kernel
theorem gd_Chart_beyond_44 : decode prog_2_method_7_code 44 = .ok (.getfield 9, 3) := by decide +kernel
theorem gd_Chart_beyond_47 : decode prog_2_method_7_code 47 = .ok (.iload_n 3, 1) := by decide +kernel
theorem gd_Chart_beyond_48 : decode prog_2_method_7_code 48 = .ok (.bipush 9, 2) := by decide +kernel
theorem gd_Chart_beyond_50 : decode prog_2_method_7_code 50 = .ok (.imul, 1) := by decide +kernel
theorem gd_Chart_beyond_51 : decode prog_2_method_7_code 51 = .ok (.iload 5, 2) := by decide +kernel
theorem gd_Chart_beyond_53 : decode prog_2_method_7_code 53 = .ok (.iadd, 1) := by decide +kernel
theorem gd_Chart_beyond_54 : decode prog_2_method_7_code 54 = .ok (.iaload, 1) := by decide +kernel
theorem gd_Chart_beyond_55 : decode prog_2_method_7_code 55 = .ok (.ior, 1) := by decide +kernel
theorem gd_Chart_beyond_56 : decode prog_2_method_7_code 56 = .ok (.istore 4, 2) := by decide +kernel
theorem gd_Chart_beyond_58 : decode prog_2_method_7_code 58 = .ok (.goto 27, 3) := by decide +kernel
theorem gd_Chart_beyond_61 : decode prog_2_method_7_code 61 = .ok (.aload_n 0, 1) := by decide +kernel
theorem gd_Chart_beyond_62 : decode prog_2_method_7_code 62 = .ok (.getfield 35, 3) := by decide +kernel
theorem gd_Chart_beyond_65 : decode prog_2_method_7_code 65 = .ok (.iload_n 1, 1) := by decide +kernel
theorem gd_Chart_beyond_66 : decode prog_2_method_7_code 66 = .ok (.iload 5, 2) := by decide +kernel
theorem gd_Chart_beyond_68 : decode prog_2_method_7_code 68 = .ok (.invokevirtual 89, 3) := by decide +kernel
theorem gd_Chart_beyond_71 : decode prog_2_method_7_code 71 = .ok (.ifCond .eq 14, 3) := by decide +kernel
theorem gd_Chart_beyond_74 : decode prog_2_method_7_code 74 = .ok (.iload 4, 2) := by decide +kernel
theorem gd_Chart_beyond_76 : decode prog_2_method_7_code 76 = .ok (.iconst 1, 1) := by decide +kernel
theorem gd_Chart_beyond_77 : decode prog_2_method_7_code 77 = .ok (.iload 5, 2) := by decide +kernel
theorem gd_Chart_beyond_79 : decode prog_2_method_7_code 79 = .ok (.iconst 1, 1) := by decide +kernel
theorem gd_Chart_beyond_80 : decode prog_2_method_7_code 80 = .ok (.iadd, 1) := by decide +kernel
theorem gd_Chart_beyond_81 : decode prog_2_method_7_code 81 = .ok (.ishl, 1) := by decide +kernel
theorem gd_Chart_beyond_82 : decode prog_2_method_7_code 82 = .ok (.ior, 1) := by decide +kernel
theorem gd_Chart_beyond_83 : decode prog_2_method_7_code 83 = .ok (.istore 4, 2) := by decide +kernel
theorem gd_Chart_beyond_85 : decode prog_2_method_7_code 85 = .ok (.iinc 5 1, 3) := by decide +kernel
theorem gd_Chart_beyond_88 : decode prog_2_method_7_code 88 = .ok (.goto (-73), 3) := by decide +kernel
theorem gd_Chart_beyond_91 : decode prog_2_method_7_code 91 = .ok (.iload 4, 2) := by decide +kernel
theorem gd_Chart_beyond_93 : decode prog_2_method_7_code 93 = .ok (.ireturn, 1) := by decide +kernel
theorem gd_Text_fits_0 : decode prog_11_method_2_code 0 = .ok (.iload_n 2, 1) := by decide +kernel
theorem gd_Text_fits_1 : decode prog_11_method_2_code 1 = .ok (.ifCond .lt 28, 3) := by decide +kernel
theorem gd_Text_fits_4 : decode prog_11_method_2_code 4 = .ok (.iload_n 2, 1) := by decide +kernel
theorem gd_Text_fits_5 : decode prog_11_method_2_code 5 = .ok (.aload_n 0, 1) := by decide +kernel
theorem gd_Text_fits_6 : decode prog_11_method_2_code 6 = .ok (.getfield 29, 3) := by decide +kernel
theorem gd_Text_fits_9 : decode prog_11_method_2_code 9 = .ok (.if_icmp .ge 20, 3) := by decide +kernel
theorem gd_Text_fits_12 : decode prog_11_method_2_code 12 = .ok (.iload_n 1, 1) := by decide +kernel
theorem gd_Text_fits_13 : decode prog_11_method_2_code 13 = .ok (.aload_n 0, 1) := by decide +kernel
theorem gd_Text_fits_14 : decode prog_11_method_2_code 14 = .ok (.getfield 9, 3) := by decide +kernel
theorem gd_Text_fits_17 : decode prog_11_method_2_code 17 = .ok (.iload_n 2, 1) := by decide +kernel
theorem gd_Text_fits_18 : decode prog_11_method_2_code 18 = .ok (.iaload, 1) := by decide +kernel
theorem gd_Text_fits_19 : decode prog_11_method_2_code 19 = .ok (.ishr, 1) := by decide +kernel
theorem gd_Text_fits_20 : decode prog_11_method_2_code 20 = .ok (.iconst 1, 1) := by decide +kernel
theorem gd_Text_fits_21 : decode prog_11_method_2_code 21 = .ok (.iand, 1) := by decide +kernel
theorem gd_Text_fits_22 : decode prog_11_method_2_code 22 = .ok (.ifCond .eq 7, 3) := by decide +kernel
theorem gd_Text_fits_25 : decode prog_11_method_2_code 25 = .ok (.iconst 1, 1) := by decide +kernel
theorem gd_Text_fits_26 : decode prog_11_method_2_code 26 = .ok (.goto 4, 3) := by decide +kernel
theorem gd_Text_fits_29 : decode prog_11_method_2_code 29 = .ok (.iconst 0, 1) := by decide +kernel
theorem gd_Text_fits_30 : decode prog_11_method_2_code 30 = .ok (.ireturn, 1) := by decide +kernel
theorem gd_Chart_await_0 : decode prog_2_method_8_code 0 = .ok (.aload_n 1, 1) := by decide +kernel
theorem gd_Chart_await_1 : decode prog_2_method_8_code 1 = .ok (.iconst 0, 1) := by decide +kernel
theorem gd_Chart_await_2 : decode prog_2_method_8_code 2 = .ok (.invokestatic 52, 3) := by decide +kernel
theorem gd_Chart_await_5 : decode prog_2_method_8_code 5 = .ok (.aload_n 1, 1) := by decide +kernel
theorem gd_Chart_await_6 : decode prog_2_method_8_code 6 = .ok (.iconst 0, 1) := by decide +kernel
theorem gd_Chart_await_7 : decode prog_2_method_8_code 7 = .ok (.iconst 1, 1) := by decide +kernel
theorem gd_Chart_await_8 : decode prog_2_method_8_code 8 = .ok (.iastore, 1) := by decide +kernel
theorem gd_Chart_await_9 : decode prog_2_method_8_code 9 = .ok (.iconst 0, 1) := by decide +kernel
theorem gd_Chart_await_10 : decode prog_2_method_8_code 10 = .ok (.istore_n 3, 1) := by decide +kernel
theorem gd_Chart_await_11 : decode prog_2_method_8_code 11 = .ok (.iload_n 3, 1) := by decide +kernel
theorem gd_Chart_await_12 : decode prog_2_method_8_code 12 = .ok (.aload_n 0, 1) := by decide +kernel
theorem gd_Chart_await_13 : decode prog_2_method_8_code 13 = .ok (.getfield 35, 3) := by decide +kernel
theorem gd_Chart_await_16 : decode prog_2_method_8_code 16 = .ok (.getfield 58, 3) := by decide +kernel
theorem gd_Chart_await_19 : decode prog_2_method_8_code 19 = .ok (.if_icmp .gt 130, 3) := by decide +kernel
theorem gd_Chart_await_22 : decode prog_2_method_8_code 22 = .ok (.iconst 0, 1) := by decide +kernel
theorem gd_Chart_await_23 : decode prog_2_method_8_code 23 = .ok (.istore 4, 2) := by decide +kernel
theorem gd_Chart_await_25 : decode prog_2_method_8_code 25 = .ok (.iconst 0, 1) := by decide +kernel
theorem gd_Chart_await_26 : decode prog_2_method_8_code 26 = .ok (.istore 5, 2) := by decide +kernel
theorem gd_Chart_await_28 : decode prog_2_method_8_code 28 = .ok (.iload 5, 2) := by decide +kernel
theorem gd_Chart_await_30 : decode prog_2_method_8_code 30 = .ok (.bipush 8, 2) := by decide +kernel
theorem gd_Chart_await_32 : decode prog_2_method_8_code 32 = .ok (.if_icmp .gt 111, 3) := by decide +kernel
theorem gd_Chart_await_35 : decode prog_2_method_8_code 35 = .ok (.aload_n 1, 1) := by decide +kernel
theorem gd_Chart_await_36 : decode prog_2_method_8_code 36 = .ok (.iload_n 3, 1) := by decide +kernel
theorem gd_Chart_await_37 : decode prog_2_method_8_code 37 = .ok (.iaload, 1) := by decide +kernel
theorem gd_Chart_await_38 : decode prog_2_method_8_code 38 = .ok (.iload 4, 2) := by decide +kernel
theorem gd_Chart_await_40 : decode prog_2_method_8_code 40 = .ok (.if_icmp .eq 103, 3) := by decide +kernel
theorem gd_Chart_await_43 : decode prog_2_method_8_code 43 = .ok (.aload_n 1, 1) := by decide +kernel
theorem gd_Chart_await_44 : decode prog_2_method_8_code 44 = .ok (.iload_n 3, 1) := by decide +kernel
theorem gd_Chart_await_45 : decode prog_2_method_8_code 45 = .ok (.iaload, 1) := by decide +kernel
theorem gd_Chart_await_46 : decode prog_2_method_8_code 46 = .ok (.iload 4, 2) := by decide +kernel
theorem gd_Chart_await_48 : decode prog_2_method_8_code 48 = .ok (.iconst (-1), 1) := by decide +kernel
theorem gd_Chart_await_49 : decode prog_2_method_8_code 49 = .ok (.ixor, 1) := by decide +kernel
theorem gd_Chart_await_50 : decode prog_2_method_8_code 50 = .ok (.iand, 1) := by decide +kernel
theorem gd_Chart_await_51 : decode prog_2_method_8_code 51 = .ok (.istore 6, 2) := by decide +kernel
theorem gd_Chart_await_53 : decode prog_2_method_8_code 53 = .ok (.iload 4, 2) := by decide +kernel
theorem gd_Chart_await_55 : decode prog_2_method_8_code 55 = .ok (.iload 6, 2) := by decide +kernel
theorem gd_Chart_await_57 : decode prog_2_method_8_code 57 = .ok (.ior, 1) := by decide +kernel
theorem gd_Chart_await_58 : decode prog_2_method_8_code 58 = .ok (.istore 4, 2) := by decide +kernel
theorem gd_Chart_await_60 : decode prog_2_method_8_code 60 = .ok (.iconst 0, 1) := by decide +kernel
theorem gd_Chart_await_61 : decode prog_2_method_8_code 61 = .ok (.istore 7, 2) := by decide +kernel
theorem gd_Chart_await_63 : decode prog_2_method_8_code 63 = .ok (.iload 7, 2) := by decide +kernel
theorem gd_Chart_await_65 : decode prog_2_method_8_code 65 = .ok (.aload_n 0, 1) := by decide +kernel
theorem gd_Chart_await_66 : decode prog_2_method_8_code 66 = .ok (.getfield 27, 3) := by decide +kernel
theorem gd_Chart_await_69 : decode prog_2_method_8_code 69 = .ok (.getfield 72, 3) := by decide +kernel
theorem gd_Chart_await_72 : decode prog_2_method_8_code 72 = .ok (.if_icmp .ge 65, 3) := by decide +kernel
theorem gd_Chart_await_75 : decode prog_2_method_8_code 75 = .ok (.iload 6, 2) := by decide +kernel
theorem gd_Chart_await_77 : decode prog_2_method_8_code 77 = .ok (.aload_n 0, 1) := by decide +kernel
theorem gd_Chart_await_78 : decode prog_2_method_8_code 78 = .ok (.getfield 27, 3) := by decide +kernel
theorem gd_Chart_await_81 : decode prog_2_method_8_code 81 = .ok (.getfield 39, 3) := by decide +kernel
theorem gd_Chart_await_84 : decode prog_2_method_8_code 84 = .ok (.iload 7, 2) := by decide +kernel
theorem gd_Chart_await_86 : decode prog_2_method_8_code 86 = .ok (.iaload, 1) := by decide +kernel
theorem gd_Chart_await_87 : decode prog_2_method_8_code 87 = .ok (.ishr, 1) := by decide +kernel
theorem gd_Chart_await_88 : decode prog_2_method_8_code 88 = .ok (.iconst 1, 1) := by decide +kernel
theorem gd_Chart_await_89 : decode prog_2_method_8_code 89 = .ok (.iand, 1) := by decide +kernel
theorem gd_Chart_await_90 : decode prog_2_method_8_code 90 = .ok (.ifCond .ne 6, 3) := by decide +kernel
theorem gd_Chart_await_93 : decode prog_2_method_8_code 93 = .ok (.goto 38, 3) := by decide +kernel
theorem gd_Chart_await_96 : decode prog_2_method_8_code 96 = .ok (.iload_n 2, 1) := by decide +kernel
theorem gd_Chart_await_97 : decode prog_2_method_8_code 97 = .ok (.ifCond .ne 14, 3) := by decide +kernel
theorem gd_Chart_await_100 : decode prog_2_method_8_code 100 = .ok (.aload_n 0, 1) := by decide +kernel
theorem gd_Chart_await_101 : decode prog_2_method_8_code 101 = .ok (.iload 7, 2) := by decide +kernel
theorem gd_Chart_await_103 : decode prog_2_method_8_code 103 = .ok (.iload_n 3, 1) := by decide +kernel
theorem gd_Chart_await_104 : decode prog_2_method_8_code 104 = .ok (.aload_n 1, 1) := by decide +kernel
theorem gd_Chart_await_105 : decode prog_2_method_8_code 105 = .ok (.invokevirtual 93, 3) := by decide +kernel
theorem gd_Chart_await_108 : decode prog_2_method_8_code 108 = .ok (.goto 23, 3) := by decide +kernel
theorem gd_Chart_await_111 : decode prog_2_method_8_code 111 = .ok (.aload_n 0, 1) := by decide +kernel
theorem gd_Chart_await_112 : decode prog_2_method_8_code 112 = .ok (.getfield 31, 3) := by decide +kernel
theorem gd_Chart_await_115 : decode prog_2_method_8_code 115 = .ok (.iload 7, 2) := by decide +kernel
theorem gd_Chart_await_117 : decode prog_2_method_8_code 117 = .ok (.invokevirtual 97, 3) := by decide +kernel
theorem gd_Chart_await_120 : decode prog_2_method_8_code 120 = .ok (.ifCond .eq 11, 3) := by decide +kernel
theorem gd_Chart_await_123 : decode prog_2_method_8_code 123 = .ok (.aload_n 0, 1) := by decide +kernel
theorem gd_Chart_await_124 : decode prog_2_method_8_code 124 = .ok (.iload 7, 2) := by decide +kernel
theorem gd_Chart_await_126 : decode prog_2_method_8_code 126 = .ok (.iload_n 3, 1) := by decide +kernel
theorem gd_Chart_await_127 : decode prog_2_method_8_code 127 = .ok (.aload_n 1, 1) := by decide +kernel
theorem gd_Chart_await_128 : decode prog_2_method_8_code 128 = .ok (.invokevirtual 103, 3) := by decide +kernel
theorem gd_Chart_await_131 : decode prog_2_method_8_code 131 = .ok (.iinc 7 1, 3) := by decide +kernel
theorem gd_Chart_await_134 : decode prog_2_method_8_code 134 = .ok (.goto (-71), 3) := by decide +kernel
theorem gd_Chart_await_137 : decode prog_2_method_8_code 137 = .ok (.iinc 5 1, 3) := by decide +kernel
theorem gd_Chart_await_140 : decode prog_2_method_8_code 140 = .ok (.goto (-112), 3) := by decide +kernel
theorem gd_Chart_await_143 : decode prog_2_method_8_code 143 = .ok (.iinc 3 1, 3) := by decide +kernel
theorem gd_Chart_await_146 : decode prog_2_method_8_code 146 = .ok (.goto (-135), 3) := by decide +kernel
theorem gd_Chart_await_149 : decode prog_2_method_8_code 149 = .ok (.return_, 1) := by decide +kernel
theorem gd_Chart_goThrough_0 : decode prog_2_method_9_code 0 = .ok (.iconst 1, 1) := by decide +kernel
theorem gd_Chart_goThrough_1 : decode prog_2_method_9_code 1 = .ok (.iload_n 2, 1) := by decide +kernel
theorem gd_Chart_goThrough_2 : decode prog_2_method_9_code 2 = .ok (.ishl, 1) := by decide +kernel
theorem gd_Chart_goThrough_3 : decode prog_2_method_9_code 3 = .ok (.istore 4, 2) := by decide +kernel
theorem gd_Chart_goThrough_5 : decode prog_2_method_9_code 5 = .ok (.iconst 0, 1) := by decide +kernel
theorem gd_Chart_goThrough_6 : decode prog_2_method_9_code 6 = .ok (.istore 5, 2) := by decide +kernel
theorem gd_Chart_goThrough_8 : decode prog_2_method_9_code 8 = .ok (.iload 5, 2) := by decide +kernel
theorem gd_Chart_goThrough_10 : decode prog_2_method_9_code 10 = .ok (.aload_n 0, 1) := by decide +kernel
theorem gd_Chart_goThrough_11 : decode prog_2_method_9_code 11 = .ok (.getfield 27, 3) := by decide +kernel
theorem gd_Chart_goThrough_14 : decode prog_2_method_9_code 14 = .ok (.getfield 75, 3) := by decide +kernel
theorem gd_Chart_goThrough_17 : decode prog_2_method_9_code 17 = .ok (.iload_n 1, 1) := by decide +kernel
theorem gd_Chart_goThrough_18 : decode prog_2_method_9_code 18 = .ok (.iaload, 1) := by decide +kernel
theorem gd_Chart_goThrough_19 : decode prog_2_method_9_code 19 = .ok (.if_icmp .gt 80, 3) := by decide +kernel
theorem gd_Chart_goThrough_22 : decode prog_2_method_9_code 22 = .ok (.iload_n 2, 1) := by decide +kernel
theorem gd_Chart_goThrough_23 : decode prog_2_method_9_code 23 = .ok (.istore 6, 2) := by decide +kernel
theorem gd_Chart_goThrough_25 : decode prog_2_method_9_code 25 = .ok (.iload 6, 2) := by decide +kernel
theorem gd_Chart_goThrough_27 : decode prog_2_method_9_code 27 = .ok (.aload_n 0, 1) := by decide +kernel
theorem gd_Chart_goThrough_28 : decode prog_2_method_9_code 28 = .ok (.getfield 35, 3) := by decide +kernel
theorem gd_Chart_goThrough_31 : decode prog_2_method_9_code 31 = .ok (.getfield 58, 3) := by decide +kernel
theorem gd_Chart_goThrough_34 : decode prog_2_method_9_code 34 = .ok (.if_icmp .gt 26, 3) := by decide +kernel
theorem gd_Chart_goThrough_37 : decode prog_2_method_9_code 37 = .ok (.aload_n 0, 1) := by decide +kernel
theorem gd_Chart_goThrough_38 : decode prog_2_method_9_code 38 = .ok (.getfield 21, 3) := by decide +kernel
theorem gd_Chart_goThrough_41 : decode prog_2_method_9_code 41 = .ok (.iload 6, 2) := by decide +kernel
theorem gd_Chart_goThrough_43 : decode prog_2_method_9_code 43 = .ok (.dup2, 1) := by decide +kernel
theorem gd_Chart_goThrough_44 : decode prog_2_method_9_code 44 = .ok (.iaload, 1) := by decide +kernel
theorem gd_Chart_goThrough_45 : decode prog_2_method_9_code 45 = .ok (.iload 4, 2) := by decide +kernel
theorem gd_Chart_goThrough_47 : decode prog_2_method_9_code 47 = .ok (.iload 6, 2) := by decide +kernel
theorem gd_Chart_goThrough_49 : decode prog_2_method_9_code 49 = .ok (.ishr, 1) := by decide +kernel
theorem gd_Chart_goThrough_50 : decode prog_2_method_9_code 50 = .ok (.iconst 1, 1) := by decide +kernel
theorem gd_Chart_goThrough_51 : decode prog_2_method_9_code 51 = .ok (.iand, 1) := by decide +kernel
theorem gd_Chart_goThrough_52 : decode prog_2_method_9_code 52 = .ok (.iadd, 1) := by decide +kernel
theorem gd_Chart_goThrough_53 : decode prog_2_method_9_code 53 = .ok (.iastore, 1) := by decide +kernel
theorem gd_Chart_goThrough_54 : decode prog_2_method_9_code 54 = .ok (.iinc 6 1, 3) := by decide +kernel
theorem gd_Chart_goThrough_57 : decode prog_2_method_9_code 57 = .ok (.goto (-32), 3) := by decide +kernel
theorem gd_Chart_goThrough_60 : decode prog_2_method_9_code 60 = .ok (.iload 5, 2) := by decide +kernel
theorem gd_Chart_goThrough_62 : decode prog_2_method_9_code 62 = .ok (.aload_n 0, 1) := by decide +kernel
theorem gd_Chart_goThrough_63 : decode prog_2_method_9_code 63 = .ok (.getfield 27, 3) := by decide +kernel
theorem gd_Chart_goThrough_66 : decode prog_2_method_9_code 66 = .ok (.getfield 75, 3) := by decide +kernel
theorem gd_Chart_goThrough_69 : decode prog_2_method_9_code 69 = .ok (.iload_n 1, 1) := by decide +kernel
theorem gd_Chart_goThrough_70 : decode prog_2_method_9_code 70 = .ok (.iaload, 1) := by decide +kernel
theorem gd_Chart_goThrough_71 : decode prog_2_method_9_code 71 = .ok (.if_icmp .ge 22, 3) := by decide +kernel
theorem gd_Chart_goThrough_74 : decode prog_2_method_9_code 74 = .ok (.aload_n 0, 1) := by decide +kernel
theorem gd_Chart_goThrough_75 : decode prog_2_method_9_code 75 = .ok (.aload_n 0, 1) := by decide +kernel
theorem gd_Chart_goThrough_76 : decode prog_2_method_9_code 76 = .ok (.getfield 27, 3) := by decide +kernel
theorem gd_Chart_goThrough_79 : decode prog_2_method_9_code 79 = .ok (.iload_n 1, 1) := by decide +kernel
theorem gd_Chart_goThrough_80 : decode prog_2_method_9_code 80 = .ok (.iload 5, 2) := by decide +kernel
theorem gd_Chart_goThrough_82 : decode prog_2_method_9_code 82 = .ok (.invokevirtual 78, 3) := by decide +kernel
theorem gd_Chart_goThrough_85 : decode prog_2_method_9_code 85 = .ok (.iload 4, 2) := by decide +kernel
theorem gd_Chart_goThrough_87 : decode prog_2_method_9_code 87 = .ok (.aload_n 3, 1) := by decide +kernel
theorem gd_Chart_goThrough_88 : decode prog_2_method_9_code 88 = .ok (.invokevirtual 106, 3) := by decide +kernel
theorem gd_Chart_goThrough_91 : decode prog_2_method_9_code 91 = .ok (.istore 4, 2) := by decide +kernel
theorem gd_Chart_goThrough_93 : decode prog_2_method_9_code 93 = .ok (.iinc 5 1, 3) := by decide +kernel
theorem gd_Chart_goThrough_96 : decode prog_2_method_9_code 96 = .ok (.goto (-88), 3) := by decide +kernel
theorem gd_Chart_goThrough_99 : decode prog_2_method_9_code 99 = .ok (.return_, 1) := by decide +kernel
theorem gd_Chart_enter_0 : decode prog_2_method_11_code 0 = .ok (.aload_n 0, 1) := by decide +kernel
theorem gd_Chart_enter_1 : decode prog_2_method_11_code 1 = .ok (.getfield 27, 3) := by decide +kernel
theorem gd_Chart_enter_4 : decode prog_2_method_11_code 4 = .ok (.iload_n 1, 1) := by decide +kernel
theorem gd_Chart_enter_5 : decode prog_2_method_11_code 5 = .ok (.invokevirtual 85, 3) := by decide +kernel
theorem gd_Chart_enter_8 : decode prog_2_method_11_code 8 = .ok (.istore 4, 2) := by decide +kernel
theorem gd_Chart_enter_10 : decode prog_2_method_11_code 10 = .ok (.iconst 0, 1) := by decide +kernel
theorem gd_Chart_enter_11 : decode prog_2_method_11_code 11 = .ok (.istore 5, 2) := by decide +kernel
theorem gd_Chart_enter_13 : decode prog_2_method_11_code 13 = .ok (.iload 5, 2) := by decide +kernel
theorem gd_Chart_enter_15 : decode prog_2_method_11_code 15 = .ok (.aload_n 0, 1) := by decide +kernel
theorem gd_Chart_enter_16 : decode prog_2_method_11_code 16 = .ok (.getfield 35, 3) := by decide +kernel
theorem gd_Chart_enter_19 : decode prog_2_method_11_code 19 = .ok (.getfield 58, 3) := by decide +kernel
theorem gd_Chart_enter_22 : decode prog_2_method_11_code 22 = .ok (.if_icmp .gt 31, 3) := by decide +kernel
theorem gd_Chart_enter_25 : decode prog_2_method_11_code 25 = .ok (.iload 4, 2) := by decide +kernel
theorem gd_Chart_enter_27 : decode prog_2_method_11_code 27 = .ok (.iconst (-1), 1) := by decide +kernel
theorem gd_Chart_enter_28 : decode prog_2_method_11_code 28 = .ok (.if_icmp .eq 25, 3) := by decide +kernel
theorem gd_Chart_enter_31 : decode prog_2_method_11_code 31 = .ok (.aload_n 3, 1) := by decide +kernel
theorem gd_Chart_enter_32 : decode prog_2_method_11_code 32 = .ok (.iload 5, 2) := by decide +kernel
theorem gd_Chart_enter_34 : decode prog_2_method_11_code 34 = .ok (.dup2, 1) := by decide +kernel
theorem gd_Chart_enter_35 : decode prog_2_method_11_code 35 = .ok (.iaload, 1) := by decide +kernel
theorem gd_Chart_enter_36 : decode prog_2_method_11_code 36 = .ok (.iload_n 2, 1) := by decide +kernel
theorem gd_Chart_enter_37 : decode prog_2_method_11_code 37 = .ok (.iload 5, 2) := by decide +kernel
theorem gd_Chart_enter_39 : decode prog_2_method_11_code 39 = .ok (.ishr, 1) := by decide +kernel
theorem gd_Chart_enter_40 : decode prog_2_method_11_code 40 = .ok (.iconst 1, 1) := by decide +kernel
theorem gd_Chart_enter_41 : decode prog_2_method_11_code 41 = .ok (.iand, 1) := by decide +kernel
theorem gd_Chart_enter_42 : decode prog_2_method_11_code 42 = .ok (.iload 4, 2) := by decide +kernel
theorem gd_Chart_enter_44 : decode prog_2_method_11_code 44 = .ok (.ishl, 1) := by decide +kernel
theorem gd_Chart_enter_45 : decode prog_2_method_11_code 45 = .ok (.ior, 1) := by decide +kernel
theorem gd_Chart_enter_46 : decode prog_2_method_11_code 46 = .ok (.iastore, 1) := by decide +kernel
theorem gd_Chart_enter_47 : decode prog_2_method_11_code 47 = .ok (.iinc 5 1, 3) := by decide +kernel
theorem gd_Chart_enter_50 : decode prog_2_method_11_code 50 = .ok (.goto (-37), 3) := by decide +kernel
theorem gd_Chart_enter_53 : decode prog_2_method_11_code 53 = .ok (.aload_n 0, 1) := by decide +kernel
theorem gd_Chart_enter_54 : decode prog_2_method_11_code 54 = .ok (.iload_n 1, 1) := by decide +kernel
theorem gd_Chart_enter_55 : decode prog_2_method_11_code 55 = .ok (.iload_n 2, 1) := by decide +kernel
theorem gd_Chart_enter_56 : decode prog_2_method_11_code 56 = .ok (.invokevirtual 82, 3) := by decide +kernel
theorem gd_Chart_enter_59 : decode prog_2_method_11_code 59 = .ok (.ireturn, 1) := by decide +kernel
theorem gd_Chart_lookAhead_0 : decode prog_2_method_10_code 0 = .ok (.iconst 1, 1) := by decide +kernel
theorem gd_Chart_lookAhead_1 : decode prog_2_method_10_code 1 = .ok (.iload_n 2, 1) := by decide +kernel
theorem gd_Chart_lookAhead_2 : decode prog_2_method_10_code 2 = .ok (.ishl, 1) := by decide +kernel
theorem gd_Chart_lookAhead_3 : decode prog_2_method_10_code 3 = .ok (.istore 4, 2) := by decide +kernel
theorem gd_Chart_lookAhead_5 : decode prog_2_method_10_code 5 = .ok (.iconst 0, 1) := by decide +kernel
theorem gd_Chart_lookAhead_6 : decode prog_2_method_10_code 6 = .ok (.istore 5, 2) := by decide +kernel
theorem gd_Chart_lookAhead_8 : decode prog_2_method_10_code 8 = .ok (.iload 5, 2) := by decide +kernel
theorem gd_Chart_lookAhead_10 : decode prog_2_method_10_code 10 = .ok (.aload_n 0, 1) := by decide +kernel
theorem gd_Chart_lookAhead_11 : decode prog_2_method_10_code 11 = .ok (.getfield 27, 3) := by decide +kernel
theorem gd_Chart_lookAhead_14 : decode prog_2_method_10_code 14 = .ok (.getfield 75, 3) := by decide +kernel
theorem gd_Chart_lookAhead_17 : decode prog_2_method_10_code 17 = .ok (.iload_n 1, 1) := by decide +kernel
theorem gd_Chart_lookAhead_18 : decode prog_2_method_10_code 18 = .ok (.iaload, 1) := by decide +kernel
theorem gd_Chart_lookAhead_19 : decode prog_2_method_10_code 19 = .ok (.if_icmp .ge 84, 3) := by decide +kernel
theorem gd_Chart_lookAhead_22 : decode prog_2_method_10_code 22 = .ok (.aload_n 0, 1) := by decide +kernel
theorem gd_Chart_lookAhead_23 : decode prog_2_method_10_code 23 = .ok (.getfield 27, 3) := by decide +kernel
theorem gd_Chart_lookAhead_26 : decode prog_2_method_10_code 26 = .ok (.iload_n 1, 1) := by decide +kernel
theorem gd_Chart_lookAhead_27 : decode prog_2_method_10_code 27 = .ok (.iload 5, 2) := by decide +kernel
theorem gd_Chart_lookAhead_29 : decode prog_2_method_10_code 29 = .ok (.invokevirtual 78, 3) := by decide +kernel
theorem gd_Chart_lookAhead_32 : decode prog_2_method_10_code 32 = .ok (.istore 6, 2) := by decide +kernel
theorem gd_Chart_lookAhead_34 : decode prog_2_method_10_code 34 = .ok (.iload_n 2, 1) := by decide +kernel
theorem gd_Chart_lookAhead_35 : decode prog_2_method_10_code 35 = .ok (.istore 7, 2) := by decide +kernel
theorem gd_Chart_lookAhead_37 : decode prog_2_method_10_code 37 = .ok (.iload 7, 2) := by decide +kernel
theorem gd_Chart_lookAhead_39 : decode prog_2_method_10_code 39 = .ok (.aload_n 0, 1) := by decide +kernel
theorem gd_Chart_lookAhead_40 : decode prog_2_method_10_code 40 = .ok (.getfield 35, 3) := by decide +kernel
theorem gd_Chart_lookAhead_43 : decode prog_2_method_10_code 43 = .ok (.getfield 58, 3) := by decide +kernel
theorem gd_Chart_lookAhead_46 : decode prog_2_method_10_code 46 = .ok (.if_icmp .gt 40, 3) := by decide +kernel
theorem gd_Chart_lookAhead_49 : decode prog_2_method_10_code 49 = .ok (.iload 6, 2) := by decide +kernel
theorem gd_Chart_lookAhead_51 : decode prog_2_method_10_code 51 = .ok (.ifCond .le 35, 3) := by decide +kernel
theorem gd_Chart_lookAhead_54 : decode prog_2_method_10_code 54 = .ok (.aload_n 0, 1) := by decide +kernel
theorem gd_Chart_lookAhead_55 : decode prog_2_method_10_code 55 = .ok (.getfield 24, 3) := by decide +kernel
theorem gd_Chart_lookAhead_58 : decode prog_2_method_10_code 58 = .ok (.iload 7, 2) := by decide +kernel
theorem gd_Chart_lookAhead_60 : decode prog_2_method_10_code 60 = .ok (.dup2, 1) := by decide +kernel
theorem gd_Chart_lookAhead_61 : decode prog_2_method_10_code 61 = .ok (.iaload, 1) := by decide +kernel
theorem gd_Chart_lookAhead_62 : decode prog_2_method_10_code 62 = .ok (.iload 4, 2) := by decide +kernel
theorem gd_Chart_lookAhead_64 : decode prog_2_method_10_code 64 = .ok (.iload 7, 2) := by decide +kernel
theorem gd_Chart_lookAhead_66 : decode prog_2_method_10_code 66 = .ok (.ishr, 1) := by decide +kernel
theorem gd_Chart_lookAhead_67 : decode prog_2_method_10_code 67 = .ok (.iconst 1, 1) := by decide +kernel
theorem gd_Chart_lookAhead_68 : decode prog_2_method_10_code 68 = .ok (.iand, 1) := by decide +kernel
theorem gd_Chart_lookAhead_69 : decode prog_2_method_10_code 69 = .ok (.ifCond .ne 7, 3) := by decide +kernel
theorem gd_Chart_lookAhead_72 : decode prog_2_method_10_code 72 = .ok (.iconst 0, 1) := by decide +kernel
theorem gd_Chart_lookAhead_73 : decode prog_2_method_10_code 73 = .ok (.goto 5, 3) := by decide +kernel
theorem gd_Chart_lookAhead_76 : decode prog_2_method_10_code 76 = .ok (.iload 6, 2) := by decide +kernel
theorem gd_Chart_lookAhead_78 : decode prog_2_method_10_code 78 = .ok (.ior, 1) := by decide +kernel
theorem gd_Chart_lookAhead_79 : decode prog_2_method_10_code 79 = .ok (.iastore, 1) := by decide +kernel
theorem gd_Chart_lookAhead_80 : decode prog_2_method_10_code 80 = .ok (.iinc 7 1, 3) := by decide +kernel
theorem gd_Chart_lookAhead_83 : decode prog_2_method_10_code 83 = .ok (.goto (-46), 3) := by decide +kernel
theorem gd_Chart_lookAhead_86 : decode prog_2_method_10_code 86 = .ok (.aload_n 0, 1) := by decide +kernel
theorem gd_Chart_lookAhead_87 : decode prog_2_method_10_code 87 = .ok (.iload 6, 2) := by decide +kernel
theorem gd_Chart_lookAhead_89 : decode prog_2_method_10_code 89 = .ok (.iload 4, 2) := by decide +kernel
theorem gd_Chart_lookAhead_91 : decode prog_2_method_10_code 91 = .ok (.aload_n 3, 1) := by decide +kernel
theorem gd_Chart_lookAhead_92 : decode prog_2_method_10_code 92 = .ok (.invokevirtual 106, 3) := by decide +kernel
theorem gd_Chart_lookAhead_95 : decode prog_2_method_10_code 95 = .ok (.istore 4, 2) := by decide +kernel
theorem gd_Chart_lookAhead_97 : decode prog_2_method_10_code 97 = .ok (.iinc 5 1, 3) := by decide +kernel
theorem gd_Chart_lookAhead_100 : decode prog_2_method_10_code 100 = .ok (.goto (-92), 3) := by decide +kernel
theorem gd_Chart_lookAhead_103 : decode prog_2_method_10_code 103 = .ok (.return_, 1) := by decide +kernel
theorem gd_Chart_covers_0 : decode prog_2_method_2_code 0 = .ok (.aload_n 0, 1) := by decide +kernel
theorem gd_Chart_covers_1 : decode prog_2_method_2_code 1 = .ok (.getfield 9, 3) := by decide +kernel
theorem gd_Chart_covers_4 : decode prog_2_method_2_code 4 = .ok (.iload_n 1, 1) := by decide +kernel
theorem gd_Chart_covers_5 : decode prog_2_method_2_code 5 = .ok (.bipush 9, 2) := by decide +kernel
theorem gd_Chart_covers_7 : decode prog_2_method_2_code 7 = .ok (.imul, 1) := by decide +kernel
theorem gd_Chart_covers_8 : decode prog_2_method_2_code 8 = .ok (.iload_n 2, 1) := by decide +kernel
theorem gd_Chart_covers_9 : decode prog_2_method_2_code 9 = .ok (.iadd, 1) := by decide +kernel
theorem gd_Chart_covers_10 : decode prog_2_method_2_code 10 = .ok (.iaload, 1) := by decide +kernel
theorem gd_Chart_covers_11 : decode prog_2_method_2_code 11 = .ok (.iload_n 3, 1) := by decide +kernel
theorem gd_Chart_covers_12 : decode prog_2_method_2_code 12 = .ok (.ishr, 1) := by decide +kernel
theorem gd_Chart_covers_13 : decode prog_2_method_2_code 13 = .ok (.iconst 1, 1) := by decide +kernel
theorem gd_Chart_covers_14 : decode prog_2_method_2_code 14 = .ok (.iand, 1) := by decide +kernel
theorem gd_Chart_covers_15 : decode prog_2_method_2_code 15 = .ok (.ifCond .eq 7, 3) := by decide +kernel
theorem gd_Chart_covers_18 : decode prog_2_method_2_code 18 = .ok (.iconst 1, 1) := by decide +kernel
theorem gd_Chart_covers_19 : decode prog_2_method_2_code 19 = .ok (.goto 4, 3) := by decide +kernel
theorem gd_Chart_covers_22 : decode prog_2_method_2_code 22 = .ok (.iconst 0, 1) := by decide +kernel
theorem gd_Chart_covers_23 : decode prog_2_method_2_code 23 = .ok (.ireturn, 1) := by decide +kernel
theorem gd_Law_low_0 : decode method_2_code 0 = .ok (.aload_n 0, 1) := by decide +kernel
theorem gd_Law_low_1 : decode method_2_code 1 = .ok (.arraylength, 1) := by decide +kernel
theorem gd_Law_low_2 : decode method_2_code 2 = .ok (.ifCond .ne 5, 3) := by decide +kernel
theorem gd_Law_low_5 : decode method_2_code 5 = .ok (.iconst 0, 1) := by decide +kernel
theorem gd_Law_low_6 : decode method_2_code 6 = .ok (.ireturn, 1) := by decide +kernel
theorem gd_Law_low_7 : decode method_2_code 7 = .ok (.aload_n 1, 1) := by decide +kernel
theorem gd_Law_low_8 : decode method_2_code 8 = .ok (.iconst 0, 1) := by decide +kernel
theorem gd_Law_low_9 : decode method_2_code 9 = .ok (.iaload, 1) := by decide +kernel
theorem gd_Law_low_10 : decode method_2_code 10 = .ok (.aload_n 0, 1) := by decide +kernel
theorem gd_Law_low_11 : decode method_2_code 11 = .ok (.arraylength, 1) := by decide +kernel
theorem gd_Law_low_12 : decode method_2_code 12 = .ok (.irem, 1) := by decide +kernel
theorem gd_Law_low_13 : decode method_2_code 13 = .ok (.istore_n 3, 1) := by decide +kernel
theorem gd_Law_low_14 : decode method_2_code 14 = .ok (.aload_n 1, 1) := by decide +kernel
theorem gd_Law_low_15 : decode method_2_code 15 = .ok (.iconst 0, 1) := by decide +kernel
theorem gd_Law_low_16 : decode method_2_code 16 = .ok (.dup2, 1) := by decide +kernel
theorem gd_Law_low_17 : decode method_2_code 17 = .ok (.iaload, 1) := by decide +kernel
theorem gd_Law_low_18 : decode method_2_code 18 = .ok (.iconst 1, 1) := by decide +kernel
theorem gd_Law_low_19 : decode method_2_code 19 = .ok (.iadd, 1) := by decide +kernel
theorem gd_Law_low_20 : decode method_2_code 20 = .ok (.iastore, 1) := by decide +kernel
theorem gd_Law_low_21 : decode method_2_code 21 = .ok (.aload_n 0, 1) := by decide +kernel
theorem gd_Law_low_22 : decode method_2_code 22 = .ok (.iload_n 3, 1) := by decide +kernel
theorem gd_Law_low_23 : decode method_2_code 23 = .ok (.iaload, 1) := by decide +kernel
theorem gd_Law_low_24 : decode method_2_code 24 = .ok (.bipush 77, 2) := by decide +kernel
theorem gd_Law_low_26 : decode method_2_code 26 = .ok (.aload_n 1, 1) := by decide +kernel
theorem gd_Law_low_27 : decode method_2_code 27 = .ok (.iconst 0, 1) := by decide +kernel
theorem gd_Law_low_28 : decode method_2_code 28 = .ok (.iaload, 1) := by decide +kernel
theorem gd_Law_low_29 : decode method_2_code 29 = .ok (.imul, 1) := by decide +kernel
theorem gd_Law_low_30 : decode method_2_code 30 = .ok (.iadd, 1) := by decide +kernel
theorem gd_Law_low_31 : decode method_2_code 31 = .ok (.istore 4, 2) := by decide +kernel
theorem gd_Law_low_33 : decode method_2_code 33 = .ok (.iload 4, 2) := by decide +kernel
theorem gd_Law_low_35 : decode method_2_code 35 = .ok (.ifCond .ge 11, 3) := by decide +kernel
theorem gd_Law_low_38 : decode method_2_code 38 = .ok (.iload 4, 2) := by decide +kernel
theorem gd_Law_low_40 : decode method_2_code 40 = .ok (.iconst 1, 1) := by decide +kernel
theorem gd_Law_low_41 : decode method_2_code 41 = .ok (.iadd, 1) := by decide +kernel
theorem gd_Law_low_42 : decode method_2_code 42 = .ok (.ineg, 1) := by decide +kernel
theorem gd_Law_low_43 : decode method_2_code 43 = .ok (.goto 5, 3) := by decide +kernel
theorem gd_Law_low_46 : decode method_2_code 46 = .ok (.iload 4, 2) := by decide +kernel
theorem gd_Law_low_48 : decode method_2_code 48 = .ok (.istore 4, 2) := by decide +kernel
theorem gd_Law_low_50 : decode method_2_code 50 = .ok (.iload 4, 2) := by decide +kernel
theorem gd_Law_low_52 : decode method_2_code 52 = .ok (.iconst 1, 1) := by decide +kernel
theorem gd_Law_low_53 : decode method_2_code 53 = .ok (.aload_n 1, 1) := by decide +kernel
theorem gd_Law_low_54 : decode method_2_code 54 = .ok (.iconst 0, 1) := by decide +kernel
theorem gd_Law_low_55 : decode method_2_code 55 = .ok (.iaload, 1) := by decide +kernel
theorem gd_Law_low_56 : decode method_2_code 56 = .ok (.iconst 5, 1) := by decide +kernel
theorem gd_Law_low_57 : decode method_2_code 57 = .ok (.irem, 1) := by decide +kernel
theorem gd_Law_low_58 : decode method_2_code 58 = .ok (.iadd, 1) := by decide +kernel
theorem gd_Law_low_59 : decode method_2_code 59 = .ok (.idiv, 1) := by decide +kernel
theorem gd_Law_low_60 : decode method_2_code 60 = .ok (.iload_n 2, 1) := by decide +kernel
theorem gd_Law_low_61 : decode method_2_code 61 = .ok (.irem, 1) := by decide +kernel
theorem gd_Law_low_62 : decode method_2_code 62 = .ok (.ireturn, 1) := by decide +kernel
theorem gd_Law_typeGrammar_0 : decode method_5_code 0 = .ok (.iconst 1, 1) := by decide +kernel
theorem gd_Law_typeGrammar_1 : decode method_5_code 1 = .ok (.aload_n 1, 1) := by decide +kernel
theorem gd_Law_typeGrammar_2 : decode method_5_code 2 = .ok (.aload_n 2, 1) := by decide +kernel
theorem gd_Law_typeGrammar_3 : decode method_5_code 3 = .ok (.iconst 3, 1) := by decide +kernel
theorem gd_Law_typeGrammar_4 : decode method_5_code 4 = .ok (.invokestatic 13, 3) := by decide +kernel
theorem gd_Law_typeGrammar_7 : decode method_5_code 7 = .ok (.iadd, 1) := by decide +kernel
theorem gd_Law_typeGrammar_8 : decode method_5_code 8 = .ok (.istore_n 3, 1) := by decide +kernel
theorem gd_Law_typeGrammar_9 : decode method_5_code 9 = .ok (.iconst 0, 1) := by decide +kernel
theorem gd_Law_typeGrammar_10 : decode method_5_code 10 = .ok (.istore 4, 2) := by decide +kernel
theorem gd_Law_typeGrammar_12 : decode method_5_code 12 = .ok (.iload 4, 2) := by decide +kernel
theorem gd_Law_typeGrammar_14 : decode method_5_code 14 = .ok (.iload_n 3, 1) := by decide +kernel
theorem gd_Law_typeGrammar_15 : decode method_5_code 15 = .ok (.if_icmp .ge 156, 3) := by decide +kernel
theorem gd_Law_typeGrammar_18 : decode method_5_code 18 = .ok (.aload_n 0, 1) := by decide +kernel
theorem gd_Law_typeGrammar_19 : decode method_5_code 19 = .ok (.bipush 65, 2) := by decide +kernel
theorem gd_Law_typeGrammar_21 : decode method_5_code 21 = .ok (.iload 4, 2) := by decide +kernel
theorem gd_Law_typeGrammar_23 : decode method_5_code 23 = .ok (.iadd, 1) := by decide +kernel
theorem gd_Law_typeGrammar_24 : decode method_5_code 24 = .ok (.invokestatic 19, 3) := by decide +kernel
theorem gd_Law_typeGrammar_27 : decode method_5_code 27 = .ok (.ifCond .eq 16, 3) := by decide +kernel
theorem gd_Law_typeGrammar_30 : decode method_5_code 30 = .ok (.aload_n 0, 1) := by decide +kernel
theorem gd_Law_typeGrammar_31 : decode method_5_code 31 = .ok (.bipush 58, 2) := by decide +kernel
theorem gd_Law_typeGrammar_33 : decode method_5_code 33 = .ok (.invokestatic 19, 3) := by decide +kernel
theorem gd_Law_typeGrammar_36 : decode method_5_code 36 = .ok (.ifCond .eq 7, 3) := by decide +kernel
theorem gd_Law_typeGrammar_39 : decode method_5_code 39 = .ok (.iconst 1, 1) := by decide +kernel
theorem gd_Law_typeGrammar_40 : decode method_5_code 40 = .ok (.goto 4, 3) := by decide +kernel
theorem gd_Law_typeGrammar_43 : decode method_5_code 43 = .ok (.iconst 0, 1) := by decide +kernel
theorem gd_Law_typeGrammar_44 : decode method_5_code 44 = .ok (.istore 5, 2) := by decide +kernel
theorem gd_Law_typeGrammar_46 : decode method_5_code 46 = .ok (.iconst 1, 1) := by decide +kernel
theorem gd_Law_typeGrammar_47 : decode method_5_code 47 = .ok (.aload_n 1, 1) := by decide +kernel
theorem gd_Law_typeGrammar_48 : decode method_5_code 48 = .ok (.aload_n 2, 1) := by decide +kernel
theorem gd_Law_typeGrammar_49 : decode method_5_code 49 = .ok (.iconst 3, 1) := by decide +kernel
theorem gd_Law_typeGrammar_50 : decode method_5_code 50 = .ok (.invokestatic 13, 3) := by decide +kernel
theorem gd_Law_typeGrammar_53 : decode method_5_code 53 = .ok (.iadd, 1) := by decide +kernel
theorem gd_Law_typeGrammar_54 : decode method_5_code 54 = .ok (.istore 6, 2) := by decide +kernel
theorem gd_Law_typeGrammar_56 : decode method_5_code 56 = .ok (.iconst 0, 1) := by decide +kernel
theorem gd_Law_typeGrammar_57 : decode method_5_code 57 = .ok (.istore 7, 2) := by decide +kernel
theorem gd_Law_typeGrammar_59 : decode method_5_code 59 = .ok (.iload 7, 2) := by decide +kernel
theorem gd_Law_typeGrammar_61 : decode method_5_code 61 = .ok (.iload 6, 2) := by decide +kernel
theorem gd_Law_typeGrammar_63 : decode method_5_code 63 = .ok (.if_icmp .ge 81, 3) := by decide +kernel
theorem gd_Law_typeGrammar_66 : decode method_5_code 66 = .ok (.iload 5, 2) := by decide +kernel
theorem gd_Law_typeGrammar_68 : decode method_5_code 68 = .ok (.ifCond .eq 21, 3) := by decide +kernel
theorem gd_Law_typeGrammar_71 : decode method_5_code 71 = .ok (.iload 7, 2) := by decide +kernel
theorem gd_Law_typeGrammar_73 : decode method_5_code 73 = .ok (.ifCond .eq 12, 3) := by decide +kernel
theorem gd_Law_typeGrammar_76 : decode method_5_code 76 = .ok (.aload_n 0, 1) := by decide +kernel
theorem gd_Law_typeGrammar_77 : decode method_5_code 77 = .ok (.bipush 124, 2) := by decide +kernel
theorem gd_Law_typeGrammar_79 : decode method_5_code 79 = .ok (.invokestatic 19, 3) := by decide +kernel
theorem gd_Law_typeGrammar_82 : decode method_5_code 82 = .ok (.ifCond .eq 7, 3) := by decide +kernel
theorem gd_Law_typeGrammar_85 : decode method_5_code 85 = .ok (.iconst 1, 1) := by decide +kernel
theorem gd_Law_typeGrammar_86 : decode method_5_code 86 = .ok (.goto 4, 3) := by decide +kernel
theorem gd_Law_typeGrammar_89 : decode method_5_code 89 = .ok (.iconst 0, 1) := by decide +kernel
theorem gd_Law_typeGrammar_90 : decode method_5_code 90 = .ok (.istore 5, 2) := by decide +kernel
theorem gd_Law_typeGrammar_92 : decode method_5_code 92 = .ok (.aload_n 1, 1) := by decide +kernel
theorem gd_Law_typeGrammar_93 : decode method_5_code 93 = .ok (.aload_n 2, 1) := by decide +kernel
theorem gd_Law_typeGrammar_94 : decode method_5_code 94 = .ok (.iconst 4, 1) := by decide +kernel
theorem gd_Law_typeGrammar_95 : decode method_5_code 95 = .ok (.invokestatic 13, 3) := by decide +kernel
theorem gd_Law_typeGrammar_98 : decode method_5_code 98 = .ok (.istore 8, 2) := by decide +kernel
theorem gd_Law_typeGrammar_100 : decode method_5_code 100 = .ok (.iconst 0, 1) := by decide +kernel
theorem gd_Law_typeGrammar_101 : decode method_5_code 101 = .ok (.istore 9, 2) := by decide +kernel
theorem gd_Law_typeGrammar_103 : decode method_5_code 103 = .ok (.iload 9, 2) := by decide +kernel
theorem gd_Law_typeGrammar_105 : decode method_5_code 105 = .ok (.iload 8, 2) := by decide +kernel
theorem gd_Law_typeGrammar_107 : decode method_5_code 107 = .ok (.if_icmp .ge 31, 3) := by decide +kernel
theorem gd_Law_typeGrammar_110 : decode method_5_code 110 = .ok (.iload 5, 2) := by decide +kernel
theorem gd_Law_typeGrammar_112 : decode method_5_code 112 = .ok (.ifCond .eq 17, 3) := by decide +kernel
theorem gd_Law_typeGrammar_115 : decode method_5_code 115 = .ok (.aload_n 0, 1) := by decide +kernel
theorem gd_Law_typeGrammar_116 : decode method_5_code 116 = .ok (.aload_n 1, 1) := by decide +kernel
theorem gd_Law_typeGrammar_117 : decode method_5_code 117 = .ok (.aload_n 2, 1) := by decide +kernel
theorem gd_Law_typeGrammar_118 : decode method_5_code 118 = .ok (.iload_n 3, 1) := by decide +kernel
theorem gd_Law_typeGrammar_119 : decode method_5_code 119 = .ok (.invokestatic 23, 3) := by decide +kernel
theorem gd_Law_typeGrammar_122 : decode method_5_code 122 = .ok (.ifCond .eq 7, 3) := by decide +kernel
theorem gd_Law_typeGrammar_125 : decode method_5_code 125 = .ok (.iconst 1, 1) := by decide +kernel
theorem gd_Law_typeGrammar_126 : decode method_5_code 126 = .ok (.goto 4, 3) := by decide +kernel
theorem gd_Law_typeGrammar_129 : decode method_5_code 129 = .ok (.iconst 0, 1) := by decide +kernel
theorem gd_Law_typeGrammar_130 : decode method_5_code 130 = .ok (.istore 5, 2) := by decide +kernel
theorem gd_Law_typeGrammar_132 : decode method_5_code 132 = .ok (.iinc 9 1, 3) := by decide +kernel
theorem gd_Law_typeGrammar_135 : decode method_5_code 135 = .ok (.goto (-32), 3) := by decide +kernel
theorem gd_Law_typeGrammar_138 : decode method_5_code 138 = .ok (.iinc 7 1, 3) := by decide +kernel
theorem gd_Law_typeGrammar_141 : decode method_5_code 141 = .ok (.goto (-82), 3) := by decide +kernel
theorem gd_Law_typeGrammar_144 : decode method_5_code 144 = .ok (.iload 5, 2) := by decide +kernel
theorem gd_Law_typeGrammar_146 : decode method_5_code 146 = .ok (.ifCond .eq 16, 3) := by decide +kernel
theorem gd_Law_typeGrammar_149 : decode method_5_code 149 = .ok (.aload_n 0, 1) := by decide +kernel
theorem gd_Law_typeGrammar_150 : decode method_5_code 150 = .ok (.bipush 59, 2) := by decide +kernel
theorem gd_Law_typeGrammar_152 : decode method_5_code 152 = .ok (.invokestatic 19, 3) := by decide +kernel
theorem gd_Law_typeGrammar_155 : decode method_5_code 155 = .ok (.ifCond .eq 7, 3) := by decide +kernel
theorem gd_Law_typeGrammar_158 : decode method_5_code 158 = .ok (.iconst 1, 1) := by decide +kernel
theorem gd_Law_typeGrammar_159 : decode method_5_code 159 = .ok (.goto 4, 3) := by decide +kernel
theorem gd_Law_typeGrammar_162 : decode method_5_code 162 = .ok (.iconst 0, 1) := by decide +kernel
theorem gd_Law_typeGrammar_163 : decode method_5_code 163 = .ok (.istore 5, 2) := by decide +kernel
theorem gd_Law_typeGrammar_165 : decode method_5_code 165 = .ok (.iinc 4 1, 3) := by decide +kernel
theorem gd_Law_typeGrammar_168 : decode method_5_code 168 = .ok (.goto (-156), 3) := by decide +kernel
theorem gd_Law_typeGrammar_171 : decode method_5_code 171 = .ok (.return_, 1) := by decide +kernel
theorem gd_Law_types_0 : decode method_3_code 0 = .ok (.aload_n 0, 1) := by decide +kernel
theorem gd_Law_types_1 : decode method_3_code 1 = .ok (.iload_n 1, 1) := by decide +kernel
theorem gd_Law_types_2 : decode method_3_code 2 = .ok (.iconst 0, 1) := by decide +kernel
theorem gd_Law_types_3 : decode method_3_code 3 = .ok (.iconst 0, 1) := by decide +kernel
theorem gd_Law_types_4 : decode method_3_code 4 = .ok (.iconst 0, 1) := by decide +kernel
theorem gd_Law_types_5 : decode method_3_code 5 = .ok (.iconst 0, 1) := by decide +kernel
theorem gd_Law_types_6 : decode method_3_code 6 = .ok (.invokevirtual 7, 3) := by decide +kernel
theorem gd_Law_types_9 : decode method_3_code 9 = .ok (.ifCond .le 7, 3) := by decide +kernel
theorem gd_Law_types_12 : decode method_3_code 12 = .ok (.iconst 1, 1) := by decide +kernel
theorem gd_Law_types_13 : decode method_3_code 13 = .ok (.goto 4, 3) := by decide +kernel
theorem gd_Law_types_16 : decode method_3_code 16 = .ok (.iconst 0, 1) := by decide +kernel
theorem gd_Law_types_17 : decode method_3_code 17 = .ok (.ireturn, 1) := by decide +kernel
theorem gd_House_type_0 : decode prog_1_method_2_code 0 = .ok (.iload_n 1, 1) := by decide +kernel
theorem gd_House_type_1 : decode prog_1_method_2_code 1 = .ok (.invokestatic 91, 3) := by decide +kernel
theorem gd_House_type_4 : decode prog_1_method_2_code 4 = .ok (.ifCond .eq 33, 3) := by decide +kernel
theorem gd_House_type_7 : decode prog_1_method_2_code 7 = .ok (.iload_n 2, 1) := by decide +kernel
theorem gd_House_type_8 : decode prog_1_method_2_code 8 = .ok (.invokestatic 91, 3) := by decide +kernel
theorem gd_House_type_11 : decode prog_1_method_2_code 11 = .ok (.ifCond .eq 26, 3) := by decide +kernel
theorem gd_House_type_14 : decode prog_1_method_2_code 14 = .ok (.iload_n 3, 1) := by decide +kernel
theorem gd_House_type_15 : decode prog_1_method_2_code 15 = .ok (.invokestatic 91, 3) := by decide +kernel
theorem gd_House_type_18 : decode prog_1_method_2_code 18 = .ok (.ifCond .eq 19, 3) := by decide +kernel
theorem gd_House_type_21 : decode prog_1_method_2_code 21 = .ok (.iload 4, 2) := by decide +kernel
theorem gd_House_type_23 : decode prog_1_method_2_code 23 = .ok (.invokestatic 91, 3) := by decide +kernel
theorem gd_House_type_26 : decode prog_1_method_2_code 26 = .ok (.ifCond .eq 11, 3) := by decide +kernel
theorem gd_House_type_29 : decode prog_1_method_2_code 29 = .ok (.iload 5, 2) := by decide +kernel
theorem gd_House_type_31 : decode prog_1_method_2_code 31 = .ok (.invokestatic 91, 3) := by decide +kernel
theorem gd_House_type_34 : decode prog_1_method_2_code 34 = .ok (.ifCond .ne 7, 3) := by decide +kernel
theorem gd_House_type_37 : decode prog_1_method_2_code 37 = .ok (.sipush (-1002), 3) := by decide +kernel
theorem gd_House_type_40 : decode prog_1_method_2_code 40 = .ok (.ireturn, 1) := by decide +kernel
theorem gd_House_type_41 : decode prog_1_method_2_code 41 = .ok (.iload_n 1, 1) := by decide +kernel
theorem gd_House_type_42 : decode prog_1_method_2_code 42 = .ok (.invokestatic 95, 3) := by decide +kernel
theorem gd_House_type_45 : decode prog_1_method_2_code 45 = .ok (.iload_n 2, 1) := by decide +kernel
theorem gd_House_type_46 : decode prog_1_method_2_code 46 = .ok (.invokestatic 95, 3) := by decide +kernel
theorem gd_House_type_49 : decode prog_1_method_2_code 49 = .ok (.iadd, 1) := by decide +kernel
theorem gd_House_type_50 : decode prog_1_method_2_code 50 = .ok (.iload_n 3, 1) := by decide +kernel
theorem gd_House_type_51 : decode prog_1_method_2_code 51 = .ok (.invokestatic 95, 3) := by decide +kernel
theorem gd_House_type_54 : decode prog_1_method_2_code 54 = .ok (.iadd, 1) := by decide +kernel
theorem gd_House_type_55 : decode prog_1_method_2_code 55 = .ok (.iload 4, 2) := by decide +kernel
theorem gd_House_type_57 : decode prog_1_method_2_code 57 = .ok (.invokestatic 95, 3) := by decide +kernel
theorem gd_House_type_60 : decode prog_1_method_2_code 60 = .ok (.iadd, 1) := by decide +kernel
theorem gd_House_type_61 : decode prog_1_method_2_code 61 = .ok (.iload 5, 2) := by decide +kernel
theorem gd_House_type_63 : decode prog_1_method_2_code 63 = .ok (.invokestatic 95, 3) := by decide +kernel
theorem gd_House_type_66 : decode prog_1_method_2_code 66 = .ok (.iadd, 1) := by decide +kernel
theorem gd_House_type_67 : decode prog_1_method_2_code 67 = .ok (.istore 6, 2) := by decide +kernel
theorem gd_House_type_69 : decode prog_1_method_2_code 69 = .ok (.aload_n 0, 1) := by decide +kernel
theorem gd_House_type_70 : decode prog_1_method_2_code 70 = .ok (.getfield 12, 3) := by decide +kernel
theorem gd_House_type_73 : decode prog_1_method_2_code 73 = .ok (.getfield 99, 3) := by decide +kernel
theorem gd_House_type_76 : decode prog_1_method_2_code 76 = .ok (.iload 6, 2) := by decide +kernel
theorem gd_House_type_78 : decode prog_1_method_2_code 78 = .ok (.iadd, 1) := by decide +kernel
theorem gd_House_type_79 : decode prog_1_method_2_code 79 = .ok (.sipush 240, 3) := by decide +kernel
theorem gd_House_type_82 : decode prog_1_method_2_code 82 = .ok (.if_icmp .le 7, 3) := by decide +kernel
theorem gd_House_type_85 : decode prog_1_method_2_code 85 = .ok (.sipush (-1004), 3) := by decide +kernel
theorem gd_House_type_88 : decode prog_1_method_2_code 88 = .ok (.ireturn, 1) := by decide +kernel
theorem gd_House_type_89 : decode prog_1_method_2_code 89 = .ok (.aload_n 0, 1) := by decide +kernel
theorem gd_House_type_90 : decode prog_1_method_2_code 90 = .ok (.getfield 12, 3) := by decide +kernel
theorem gd_House_type_93 : decode prog_1_method_2_code 93 = .ok (.iload_n 1, 1) := by decide +kernel
theorem gd_House_type_94 : decode prog_1_method_2_code 94 = .ok (.invokevirtual 103, 3) := by decide +kernel
theorem gd_House_type_97 : decode prog_1_method_2_code 97 = .ok (.aload_n 0, 1) := by decide +kernel
theorem gd_House_type_98 : decode prog_1_method_2_code 98 = .ok (.getfield 12, 3) := by decide +kernel
theorem gd_House_type_101 : decode prog_1_method_2_code 101 = .ok (.iload_n 2, 1) := by decide +kernel
theorem gd_House_type_102 : decode prog_1_method_2_code 102 = .ok (.invokevirtual 103, 3) := by decide +kernel
theorem gd_House_type_105 : decode prog_1_method_2_code 105 = .ok (.aload_n 0, 1) := by decide +kernel
theorem gd_House_type_106 : decode prog_1_method_2_code 106 = .ok (.getfield 12, 3) := by decide +kernel
theorem gd_House_type_109 : decode prog_1_method_2_code 109 = .ok (.iload_n 3, 1) := by decide +kernel
theorem gd_House_type_110 : decode prog_1_method_2_code 110 = .ok (.invokevirtual 103, 3) := by decide +kernel
theorem gd_House_type_113 : decode prog_1_method_2_code 113 = .ok (.aload_n 0, 1) := by decide +kernel
theorem gd_House_type_114 : decode prog_1_method_2_code 114 = .ok (.getfield 12, 3) := by decide +kernel
theorem gd_House_type_117 : decode prog_1_method_2_code 117 = .ok (.iload 4, 2) := by decide +kernel
theorem gd_House_type_119 : decode prog_1_method_2_code 119 = .ok (.invokevirtual 103, 3) := by decide +kernel
theorem gd_House_type_122 : decode prog_1_method_2_code 122 = .ok (.aload_n 0, 1) := by decide +kernel
theorem gd_House_type_123 : decode prog_1_method_2_code 123 = .ok (.getfield 12, 3) := by decide +kernel
theorem gd_House_type_126 : decode prog_1_method_2_code 126 = .ok (.iload 5, 2) := by decide +kernel
theorem gd_House_type_128 : decode prog_1_method_2_code 128 = .ok (.invokevirtual 103, 3) := by decide +kernel
theorem gd_House_type_131 : decode prog_1_method_2_code 131 = .ok (.aload_n 0, 1) := by decide +kernel
theorem gd_House_type_132 : decode prog_1_method_2_code 132 = .ok (.getfield 12, 3) := by decide +kernel
theorem gd_House_type_135 : decode prog_1_method_2_code 135 = .ok (.getfield 99, 3) := by decide +kernel
theorem gd_House_type_138 : decode prog_1_method_2_code 138 = .ok (.ireturn, 1) := by decide +kernel
theorem gd_Tape_areSigns_0 : decode prog_10_method_2_code 0 = .ok (.iconst 0, 1) := by decide +kernel
theorem gd_Tape_areSigns_1 : decode prog_10_method_2_code 1 = .ok (.istore_n 1, 1) := by decide +kernel
theorem gd_Tape_areSigns_2 : decode prog_10_method_2_code 2 = .ok (.iload_n 1, 1) := by decide +kernel
theorem gd_Tape_areSigns_3 : decode prog_10_method_2_code 3 = .ok (.bipush 32, 2) := by decide +kernel
theorem gd_Tape_areSigns_5 : decode prog_10_method_2_code 5 = .ok (.if_icmp .ge 35, 3) := by decide +kernel
theorem gd_Tape_areSigns_8 : decode prog_10_method_2_code 8 = .ok (.iload_n 0, 1) := by decide +kernel
theorem gd_Tape_areSigns_9 : decode prog_10_method_2_code 9 = .ok (.iload_n 1, 1) := by decide +kernel
theorem gd_Tape_areSigns_10 : decode prog_10_method_2_code 10 = .ok (.iushr, 1) := by decide +kernel
theorem gd_Tape_areSigns_11 : decode prog_10_method_2_code 11 = .ok (.sipush 255, 3) := by decide +kernel
theorem gd_Tape_areSigns_14 : decode prog_10_method_2_code 14 = .ok (.iand, 1) := by decide +kernel
theorem gd_Tape_areSigns_15 : decode prog_10_method_2_code 15 = .ok (.istore_n 2, 1) := by decide +kernel
theorem gd_Tape_areSigns_16 : decode prog_10_method_2_code 16 = .ok (.iload_n 2, 1) := by decide +kernel
theorem gd_Tape_areSigns_17 : decode prog_10_method_2_code 17 = .ok (.ifCond .eq 17, 3) := by decide +kernel
theorem gd_Tape_areSigns_20 : decode prog_10_method_2_code 20 = .ok (.iload_n 2, 1) := by decide +kernel
theorem gd_Tape_areSigns_21 : decode prog_10_method_2_code 21 = .ok (.bipush 32, 2) := by decide +kernel
theorem gd_Tape_areSigns_23 : decode prog_10_method_2_code 23 = .ok (.if_icmp .lt 9, 3) := by decide +kernel
theorem gd_Tape_areSigns_26 : decode prog_10_method_2_code 26 = .ok (.iload_n 2, 1) := by decide +kernel
theorem gd_Tape_areSigns_27 : decode prog_10_method_2_code 27 = .ok (.bipush 126, 2) := by decide +kernel
theorem gd_Tape_areSigns_29 : decode prog_10_method_2_code 29 = .ok (.if_icmp .le 5, 3) := by decide +kernel
theorem gd_Tape_areSigns_32 : decode prog_10_method_2_code 32 = .ok (.iconst 0, 1) := by decide +kernel
theorem gd_Tape_areSigns_33 : decode prog_10_method_2_code 33 = .ok (.ireturn, 1) := by decide +kernel
theorem gd_Tape_areSigns_34 : decode prog_10_method_2_code 34 = .ok (.iinc 1 8, 3) := by decide +kernel
theorem gd_Tape_areSigns_37 : decode prog_10_method_2_code 37 = .ok (.goto (-35), 3) := by decide +kernel
theorem gd_Tape_areSigns_40 : decode prog_10_method_2_code 40 = .ok (.iconst 1, 1) := by decide +kernel
theorem gd_Tape_areSigns_41 : decode prog_10_method_2_code 41 = .ok (.ireturn, 1) := by decide +kernel
theorem gd_Tape_signsIn_0 : decode prog_10_method_3_code 0 = .ok (.iconst 0, 1) := by decide +kernel
theorem gd_Tape_signsIn_1 : decode prog_10_method_3_code 1 = .ok (.istore_n 1, 1) := by decide +kernel
theorem gd_Tape_signsIn_2 : decode prog_10_method_3_code 2 = .ok (.iconst 0, 1) := by decide +kernel
theorem gd_Tape_signsIn_3 : decode prog_10_method_3_code 3 = .ok (.istore_n 2, 1) := by decide +kernel
theorem gd_Tape_signsIn_4 : decode prog_10_method_3_code 4 = .ok (.iload_n 2, 1) := by decide +kernel
theorem gd_Tape_signsIn_5 : decode prog_10_method_3_code 5 = .ok (.bipush 32, 2) := by decide +kernel
theorem gd_Tape_signsIn_7 : decode prog_10_method_3_code 7 = .ok (.if_icmp .ge 22, 3) := by decide +kernel
theorem gd_Tape_signsIn_10 : decode prog_10_method_3_code 10 = .ok (.iload_n 0, 1) := by decide +kernel
theorem gd_Tape_signsIn_11 : decode prog_10_method_3_code 11 = .ok (.iload_n 2, 1) := by decide +kernel
theorem gd_Tape_signsIn_12 : decode prog_10_method_3_code 12 = .ok (.iushr, 1) := by decide +kernel
theorem gd_Tape_signsIn_13 : decode prog_10_method_3_code 13 = .ok (.sipush 255, 3) := by decide +kernel
theorem gd_Tape_signsIn_16 : decode prog_10_method_3_code 16 = .ok (.iand, 1) := by decide +kernel
theorem gd_Tape_signsIn_17 : decode prog_10_method_3_code 17 = .ok (.ifCond .eq 6, 3) := by decide +kernel
theorem gd_Tape_signsIn_20 : decode prog_10_method_3_code 20 = .ok (.iinc 1 1, 3) := by decide +kernel
theorem gd_Tape_signsIn_23 : decode prog_10_method_3_code 23 = .ok (.iinc 2 8, 3) := by decide +kernel
theorem gd_Tape_signsIn_26 : decode prog_10_method_3_code 26 = .ok (.goto (-22), 3) := by decide +kernel
theorem gd_Tape_signsIn_29 : decode prog_10_method_3_code 29 = .ok (.iload_n 1, 1) := by decide +kernel
theorem gd_Tape_signsIn_30 : decode prog_10_method_3_code 30 = .ok (.ireturn, 1) := by decide +kernel
theorem gd_Tape_append_0 : decode prog_10_method_4_code 0 = .ok (.iconst 0, 1) := by decide +kernel
theorem gd_Tape_append_1 : decode prog_10_method_4_code 1 = .ok (.istore_n 2, 1) := by decide +kernel
theorem gd_Tape_append_2 : decode prog_10_method_4_code 2 = .ok (.iload_n 2, 1) := by decide +kernel
theorem gd_Tape_append_3 : decode prog_10_method_4_code 3 = .ok (.bipush 32, 2) := by decide +kernel
theorem gd_Tape_append_5 : decode prog_10_method_4_code 5 = .ok (.if_icmp .ge 51, 3) := by decide +kernel
theorem gd_Tape_append_8 : decode prog_10_method_4_code 8 = .ok (.iload_n 1, 1) := by decide +kernel
theorem gd_Tape_append_9 : decode prog_10_method_4_code 9 = .ok (.iload_n 2, 1) := by decide +kernel
theorem gd_Tape_append_10 : decode prog_10_method_4_code 10 = .ok (.iushr, 1) := by decide +kernel
theorem gd_Tape_append_11 : decode prog_10_method_4_code 11 = .ok (.sipush 255, 3) := by decide +kernel
theorem gd_Tape_append_14 : decode prog_10_method_4_code 14 = .ok (.iand, 1) := by decide +kernel
theorem gd_Tape_append_15 : decode prog_10_method_4_code 15 = .ok (.istore_n 3, 1) := by decide +kernel
theorem gd_Tape_append_16 : decode prog_10_method_4_code 16 = .ok (.iload_n 3, 1) := by decide +kernel
theorem gd_Tape_append_17 : decode prog_10_method_4_code 17 = .ok (.ifCond .eq 33, 3) := by decide +kernel
theorem gd_Tape_append_20 : decode prog_10_method_4_code 20 = .ok (.aload_n 0, 1) := by decide +kernel
theorem gd_Tape_append_21 : decode prog_10_method_4_code 21 = .ok (.getfield 15, 3) := by decide +kernel
theorem gd_Tape_append_24 : decode prog_10_method_4_code 24 = .ok (.sipush 240, 3) := by decide +kernel
theorem gd_Tape_append_27 : decode prog_10_method_4_code 27 = .ok (.if_icmp .ge 23, 3) := by decide +kernel
theorem gd_Tape_append_30 : decode prog_10_method_4_code 30 = .ok (.aload_n 0, 1) := by decide +kernel
theorem gd_Tape_append_31 : decode prog_10_method_4_code 31 = .ok (.getfield 9, 3) := by decide +kernel
theorem gd_Tape_append_34 : decode prog_10_method_4_code 34 = .ok (.aload_n 0, 1) := by decide +kernel
theorem gd_Tape_append_35 : decode prog_10_method_4_code 35 = .ok (.getfield 15, 3) := by decide +kernel
theorem gd_Tape_append_38 : decode prog_10_method_4_code 38 = .ok (.iload_n 3, 1) := by decide +kernel
theorem gd_Tape_append_39 : decode prog_10_method_4_code 39 = .ok (.iastore, 1) := by decide +kernel
theorem gd_Tape_append_40 : decode prog_10_method_4_code 40 = .ok (.aload_n 0, 1) := by decide +kernel
theorem gd_Tape_append_41 : decode prog_10_method_4_code 41 = .ok (.dup, 1) := by decide +kernel
theorem gd_Tape_append_42 : decode prog_10_method_4_code 42 = .ok (.getfield 15, 3) := by decide +kernel
theorem gd_Tape_append_45 : decode prog_10_method_4_code 45 = .ok (.iconst 1, 1) := by decide +kernel
theorem gd_Tape_append_46 : decode prog_10_method_4_code 46 = .ok (.iadd, 1) := by decide +kernel
theorem gd_Tape_append_47 : decode prog_10_method_4_code 47 = .ok (.putfield 15, 3) := by decide +kernel
theorem gd_Tape_append_50 : decode prog_10_method_4_code 50 = .ok (.iinc 2 8, 3) := by decide +kernel
theorem gd_Tape_append_53 : decode prog_10_method_4_code 53 = .ok (.goto (-51), 3) := by decide +kernel
theorem gd_Tape_append_56 : decode prog_10_method_4_code 56 = .ok (.return_, 1) := by decide +kernel
theorem gd_Law_typesAtom_0 : decode method_4_code 0 = .ok (.aload_n 1, 1) := by decide +kernel
theorem gd_Law_typesAtom_1 : decode method_4_code 1 = .ok (.aload_n 2, 1) := by decide +kernel
theorem gd_Law_typesAtom_2 : decode method_4_code 2 = .ok (.bipush 9, 2) := by decide +kernel
theorem gd_Law_typesAtom_4 : decode method_4_code 4 = .ok (.invokestatic 13, 3) := by decide +kernel
theorem gd_Law_typesAtom_7 : decode method_4_code 7 = .ok (.istore 4, 2) := by decide +kernel
theorem gd_Law_typesAtom_9 : decode method_4_code 9 = .ok (.iconst 1, 1) := by decide +kernel
theorem gd_Law_typesAtom_10 : decode method_4_code 10 = .ok (.istore 5, 2) := by decide +kernel
theorem gd_Law_typesAtom_12 : decode method_4_code 12 = .ok (.iload 4, 2) := by decide +kernel
theorem gd_Law_typesAtom_14 : decode method_4_code 14 = .ok (.iconst 3, 1) := by decide +kernel
theorem gd_Law_typesAtom_15 : decode method_4_code 15 = .ok (.if_icmp .ge 21, 3) := by decide +kernel
theorem gd_Law_typesAtom_18 : decode method_4_code 18 = .ok (.aload_n 0, 1) := by decide +kernel
theorem gd_Law_typesAtom_19 : decode method_4_code 19 = .ok (.bipush 65, 2) := by decide +kernel
theorem gd_Law_typesAtom_21 : decode method_4_code 21 = .ok (.aload_n 1, 1) := by decide +kernel
theorem gd_Law_typesAtom_22 : decode method_4_code 22 = .ok (.aload_n 2, 1) := by decide +kernel
theorem gd_Law_typesAtom_23 : decode method_4_code 23 = .ok (.iload_n 3, 1) := by decide +kernel
theorem gd_Law_typesAtom_24 : decode method_4_code 24 = .ok (.invokestatic 13, 3) := by decide +kernel
theorem gd_Law_typesAtom_27 : decode method_4_code 27 = .ok (.iadd, 1) := by decide +kernel
theorem gd_Law_typesAtom_28 : decode method_4_code 28 = .ok (.invokestatic 19, 3) := by decide +kernel
theorem gd_Law_typesAtom_31 : decode method_4_code 31 = .ok (.istore 5, 2) := by decide +kernel
theorem gd_Law_typesAtom_33 : decode method_4_code 33 = .ok (.goto 207, 3) := by decide +kernel
theorem gd_Law_typesAtom_36 : decode method_4_code 36 = .ok (.iload 4, 2) := by decide +kernel
theorem gd_Law_typesAtom_38 : decode method_4_code 38 = .ok (.bipush 7, 2) := by decide +kernel
theorem gd_Law_typesAtom_40 : decode method_4_code 40 = .ok (.if_icmp .ge 61, 3) := by decide +kernel
theorem gd_Law_typesAtom_43 : decode method_4_code 43 = .ok (.aload_n 0, 1) := by decide +kernel
theorem gd_Law_typesAtom_44 : decode method_4_code 44 = .ok (.bipush 39, 2) := by decide +kernel
theorem gd_Law_typesAtom_46 : decode method_4_code 46 = .ok (.invokestatic 19, 3) := by decide +kernel
theorem gd_Law_typesAtom_49 : decode method_4_code 49 = .ok (.ifCond .eq 46, 3) := by decide +kernel
theorem gd_Law_typesAtom_52 : decode method_4_code 52 = .ok (.aload_n 0, 1) := by decide +kernel
theorem gd_Law_typesAtom_53 : decode method_4_code 53 = .ok (.bipush 97, 2) := by decide +kernel
theorem gd_Law_typesAtom_55 : decode method_4_code 55 = .ok (.iload 4, 2) := by decide +kernel
theorem gd_Law_typesAtom_57 : decode method_4_code 57 = .ok (.iconst 2, 1) := by decide +kernel
theorem gd_Law_typesAtom_58 : decode method_4_code 58 = .ok (.irem, 1) := by decide +kernel
theorem gd_Law_typesAtom_59 : decode method_4_code 59 = .ok (.iadd, 1) := by decide +kernel
theorem gd_Law_typesAtom_60 : decode method_4_code 60 = .ok (.invokestatic 19, 3) := by decide +kernel
theorem gd_Law_typesAtom_63 : decode method_4_code 63 = .ok (.ifCond .eq 32, 3) := by decide +kernel
theorem gd_Law_typesAtom_66 : decode method_4_code 66 = .ok (.iload 4, 2) := by decide +kernel
theorem gd_Law_typesAtom_68 : decode method_4_code 68 = .ok (.bipush 6, 2) := by decide +kernel
theorem gd_Law_typesAtom_70 : decode method_4_code 70 = .ok (.if_icmp .ne 12, 3) := by decide +kernel
theorem gd_Law_typesAtom_73 : decode method_4_code 73 = .ok (.aload_n 0, 1) := by decide +kernel
theorem gd_Law_typesAtom_74 : decode method_4_code 74 = .ok (.bipush 98, 2) := by decide +kernel
theorem gd_Law_typesAtom_76 : decode method_4_code 76 = .ok (.invokestatic 19, 3) := by decide +kernel
theorem gd_Law_typesAtom_79 : decode method_4_code 79 = .ok (.ifCond .eq 16, 3) := by decide +kernel
theorem gd_Law_typesAtom_82 : decode method_4_code 82 = .ok (.aload_n 0, 1) := by decide +kernel
theorem gd_Law_typesAtom_83 : decode method_4_code 83 = .ok (.bipush 39, 2) := by decide +kernel
theorem gd_Law_typesAtom_85 : decode method_4_code 85 = .ok (.invokestatic 19, 3) := by decide +kernel
theorem gd_Law_typesAtom_88 : decode method_4_code 88 = .ok (.ifCond .eq 7, 3) := by decide +kernel
theorem gd_Law_typesAtom_91 : decode method_4_code 91 = .ok (.iconst 1, 1) := by decide +kernel
theorem gd_Law_typesAtom_92 : decode method_4_code 92 = .ok (.goto 4, 3) := by decide +kernel
theorem gd_Law_typesAtom_95 : decode method_4_code 95 = .ok (.iconst 0, 1) := by decide +kernel
theorem gd_Law_typesAtom_96 : decode method_4_code 96 = .ok (.istore 5, 2) := by decide +kernel
theorem gd_Law_typesAtom_98 : decode method_4_code 98 = .ok (.goto 142, 3) := by decide +kernel
theorem gd_Law_typesAtom_101 : decode method_4_code 101 = .ok (.iload 4, 2) := by decide +kernel
theorem gd_Law_typesAtom_103 : decode method_4_code 103 = .ok (.bipush 7, 2) := by decide +kernel
theorem gd_Law_typesAtom_105 : decode method_4_code 105 = .ok (.if_icmp .ne 65, 3) := by decide +kernel
theorem gd_Law_typesAtom_108 : decode method_4_code 108 = .ok (.aload_n 0, 1) := by decide +kernel
theorem gd_Law_typesAtom_109 : decode method_4_code 109 = .ok (.bipush 91, 2) := by decide +kernel
theorem gd_Law_typesAtom_111 : decode method_4_code 111 = .ok (.invokestatic 19, 3) := by decide +kernel
theorem gd_Law_typesAtom_114 : decode method_4_code 114 = .ok (.ifCond .eq 50, 3) := by decide +kernel
theorem gd_Law_typesAtom_117 : decode method_4_code 117 = .ok (.aload_n 0, 1) := by decide +kernel
theorem gd_Law_typesAtom_118 : decode method_4_code 118 = .ok (.bipush 97, 2) := by decide +kernel
theorem gd_Law_typesAtom_120 : decode method_4_code 120 = .ok (.invokestatic 19, 3) := by decide +kernel
theorem gd_Law_typesAtom_123 : decode method_4_code 123 = .ok (.ifCond .eq 41, 3) := by decide +kernel
theorem gd_Law_typesAtom_126 : decode method_4_code 126 = .ok (.aload_n 0, 1) := by decide +kernel
theorem gd_Law_typesAtom_127 : decode method_4_code 127 = .ok (.bipush 45, 2) := by decide +kernel
theorem gd_Law_typesAtom_129 : decode method_4_code 129 = .ok (.invokestatic 19, 3) := by decide +kernel
theorem gd_Law_typesAtom_132 : decode method_4_code 132 = .ok (.ifCond .eq 32, 3) := by decide +kernel
theorem gd_Law_typesAtom_135 : decode method_4_code 135 = .ok (.aload_n 0, 1) := by decide +kernel
theorem gd_Law_typesAtom_136 : decode method_4_code 136 = .ok (.bipush 98, 2) := by decide +kernel
theorem gd_Law_typesAtom_138 : decode method_4_code 138 = .ok (.aload_n 1, 1) := by decide +kernel
theorem gd_Law_typesAtom_139 : decode method_4_code 139 = .ok (.aload_n 2, 1) := by decide +kernel
theorem gd_Law_typesAtom_140 : decode method_4_code 140 = .ok (.iconst 2, 1) := by decide +kernel
theorem gd_Law_typesAtom_141 : decode method_4_code 141 = .ok (.invokestatic 13, 3) := by decide +kernel
theorem gd_Law_typesAtom_144 : decode method_4_code 144 = .ok (.iadd, 1) := by decide +kernel
theorem gd_Law_typesAtom_145 : decode method_4_code 145 = .ok (.invokestatic 19, 3) := by decide +kernel
theorem gd_Law_typesAtom_148 : decode method_4_code 148 = .ok (.ifCond .eq 16, 3) := by decide +kernel
theorem gd_Law_typesAtom_151 : decode method_4_code 151 = .ok (.aload_n 0, 1) := by decide +kernel
theorem gd_Law_typesAtom_152 : decode method_4_code 152 = .ok (.bipush 93, 2) := by decide +kernel
theorem gd_Law_typesAtom_154 : decode method_4_code 154 = .ok (.invokestatic 19, 3) := by decide +kernel
theorem gd_Law_typesAtom_157 : decode method_4_code 157 = .ok (.ifCond .eq 7, 3) := by decide +kernel
theorem gd_Law_typesAtom_160 : decode method_4_code 160 = .ok (.iconst 1, 1) := by decide +kernel
theorem gd_Law_typesAtom_161 : decode method_4_code 161 = .ok (.goto 4, 3) := by decide +kernel
theorem gd_Law_typesAtom_164 : decode method_4_code 164 = .ok (.iconst 0, 1) := by decide +kernel
theorem gd_Law_typesAtom_165 : decode method_4_code 165 = .ok (.istore 5, 2) := by decide +kernel
theorem gd_Law_typesAtom_167 : decode method_4_code 167 = .ok (.goto 73, 3) := by decide +kernel
theorem gd_Law_typesAtom_170 : decode method_4_code 170 = .ok (.aload_n 0, 1) := by decide +kernel
theorem gd_Law_typesAtom_171 : decode method_4_code 171 = .ok (.bipush 40, 2) := by decide +kernel
theorem gd_Law_typesAtom_173 : decode method_4_code 173 = .ok (.invokestatic 19, 3) := by decide +kernel
theorem gd_Law_typesAtom_176 : decode method_4_code 176 = .ok (.ifCond .eq 61, 3) := by decide +kernel
theorem gd_Law_typesAtom_179 : decode method_4_code 179 = .ok (.aload_n 0, 1) := by decide +kernel
theorem gd_Law_typesAtom_180 : decode method_4_code 180 = .ok (.bipush 65, 2) := by decide +kernel
theorem gd_Law_typesAtom_182 : decode method_4_code 182 = .ok (.invokestatic 19, 3) := by decide +kernel
theorem gd_Law_typesAtom_185 : decode method_4_code 185 = .ok (.ifCond .eq 52, 3) := by decide +kernel
theorem gd_Law_typesAtom_188 : decode method_4_code 188 = .ok (.aload_n 0, 1) := by decide +kernel
theorem gd_Law_typesAtom_189 : decode method_4_code 189 = .ok (.bipush 124, 2) := by decide +kernel
theorem gd_Law_typesAtom_191 : decode method_4_code 191 = .ok (.invokestatic 19, 3) := by decide +kernel
theorem gd_Law_typesAtom_194 : decode method_4_code 194 = .ok (.ifCond .eq 43, 3) := by decide +kernel
theorem gd_Law_typesAtom_197 : decode method_4_code 197 = .ok (.aload_n 0, 1) := by decide +kernel
theorem gd_Law_typesAtom_198 : decode method_4_code 198 = .ok (.bipush 39, 2) := by decide +kernel
theorem gd_Law_typesAtom_200 : decode method_4_code 200 = .ok (.invokestatic 19, 3) := by decide +kernel
theorem gd_Law_typesAtom_203 : decode method_4_code 203 = .ok (.ifCond .eq 34, 3) := by decide +kernel
theorem gd_Law_typesAtom_206 : decode method_4_code 206 = .ok (.aload_n 0, 1) := by decide +kernel
theorem gd_Law_typesAtom_207 : decode method_4_code 207 = .ok (.bipush 99, 2) := by decide +kernel
theorem gd_Law_typesAtom_209 : decode method_4_code 209 = .ok (.invokestatic 19, 3) := by decide +kernel
theorem gd_Law_typesAtom_212 : decode method_4_code 212 = .ok (.ifCond .eq 25, 3) := by decide +kernel
theorem gd_Law_typesAtom_215 : decode method_4_code 215 = .ok (.aload_n 0, 1) := by decide +kernel
theorem gd_Law_typesAtom_216 : decode method_4_code 216 = .ok (.bipush 39, 2) := by decide +kernel
theorem gd_Law_typesAtom_218 : decode method_4_code 218 = .ok (.invokestatic 19, 3) := by decide +kernel
theorem gd_Law_typesAtom_221 : decode method_4_code 221 = .ok (.ifCond .eq 16, 3) := by decide +kernel
theorem gd_Law_typesAtom_224 : decode method_4_code 224 = .ok (.aload_n 0, 1) := by decide +kernel
theorem gd_Law_typesAtom_225 : decode method_4_code 225 = .ok (.bipush 41, 2) := by decide +kernel
theorem gd_Law_typesAtom_227 : decode method_4_code 227 = .ok (.invokestatic 19, 3) := by decide +kernel
theorem gd_Law_typesAtom_230 : decode method_4_code 230 = .ok (.ifCond .eq 7, 3) := by decide +kernel
theorem gd_Law_typesAtom_233 : decode method_4_code 233 = .ok (.iconst 1, 1) := by decide +kernel
theorem gd_Law_typesAtom_234 : decode method_4_code 234 = .ok (.goto 4, 3) := by decide +kernel
theorem gd_Law_typesAtom_237 : decode method_4_code 237 = .ok (.iconst 0, 1) := by decide +kernel
theorem gd_Law_typesAtom_238 : decode method_4_code 238 = .ok (.istore 5, 2) := by decide +kernel
theorem gd_Law_typesAtom_240 : decode method_4_code 240 = .ok (.aload_n 1, 1) := by decide +kernel
theorem gd_Law_typesAtom_241 : decode method_4_code 241 = .ok (.aload_n 2, 1) := by decide +kernel
theorem gd_Law_typesAtom_242 : decode method_4_code 242 = .ok (.bipush 12, 2) := by decide +kernel
theorem gd_Law_typesAtom_244 : decode method_4_code 244 = .ok (.invokestatic 13, 3) := by decide +kernel
theorem gd_Law_typesAtom_247 : decode method_4_code 247 = .ok (.istore 6, 2) := by decide +kernel
theorem gd_Law_typesAtom_249 : decode method_4_code 249 = .ok (.iload 5, 2) := by decide +kernel
theorem gd_Law_typesAtom_251 : decode method_4_code 251 = .ok (.ifCond .eq 35, 3) := by decide +kernel
theorem gd_Law_typesAtom_254 : decode method_4_code 254 = .ok (.iload 6, 2) := by decide +kernel
theorem gd_Law_typesAtom_256 : decode method_4_code 256 = .ok (.iconst 2, 1) := by decide +kernel
theorem gd_Law_typesAtom_257 : decode method_4_code 257 = .ok (.if_icmp .gt 25, 3) := by decide +kernel
theorem gd_Law_typesAtom_260 : decode method_4_code 260 = .ok (.aload_n 0, 1) := by decide +kernel
theorem gd_Law_typesAtom_261 : decode method_4_code 261 = .ok (.iload 6, 2) := by decide +kernel
theorem gd_Law_typesAtom_263 : decode method_4_code 263 = .ok (.ifCond .ne 8, 3) := by decide +kernel
theorem gd_Law_typesAtom_266 : decode method_4_code 266 = .ok (.bipush 63, 2) := by decide +kernel
theorem gd_Law_typesAtom_268 : decode method_4_code 268 = .ok (.goto 8, 3) := by decide +kernel
theorem gd_Law_typesAtom_271 : decode method_4_code 271 = .ok (.bipush 41, 2) := by decide +kernel
theorem gd_Law_typesAtom_273 : decode method_4_code 273 = .ok (.iload 6, 2) := by decide +kernel
theorem gd_Law_typesAtom_275 : decode method_4_code 275 = .ok (.iadd, 1) := by decide +kernel
theorem gd_Law_typesAtom_276 : decode method_4_code 276 = .ok (.invokestatic 19, 3) := by decide +kernel
theorem gd_Law_typesAtom_279 : decode method_4_code 279 = .ok (.ifCond .eq 7, 3) := by decide +kernel
theorem gd_Law_typesAtom_282 : decode method_4_code 282 = .ok (.iconst 1, 1) := by decide +kernel
theorem gd_Law_typesAtom_283 : decode method_4_code 283 = .ok (.goto 4, 3) := by decide +kernel
theorem gd_Law_typesAtom_286 : decode method_4_code 286 = .ok (.iconst 0, 1) := by decide +kernel
theorem gd_Law_typesAtom_287 : decode method_4_code 287 = .ok (.ireturn, 1) := by decide +kernel
theorem gd_Law_isTextWell_0 : decode method_9_code 0 = .ok (.aload_n 0, 1) := by decide +kernel
theorem gd_Law_isTextWell_1 : decode method_9_code 1 = .ok (.iconst 4, 1) := by decide +kernel
theorem gd_Law_isTextWell_2 : decode method_9_code 2 = .ok (.invokevirtual 58, 3) := by decide +kernel
theorem gd_Law_isTextWell_5 : decode method_9_code 5 = .ok (.istore_n 3, 1) := by decide +kernel
theorem gd_Law_isTextWell_6 : decode method_9_code 6 = .ok (.iconst 1, 1) := by decide +kernel
theorem gd_Law_isTextWell_7 : decode method_9_code 7 = .ok (.istore 4, 2) := by decide +kernel
theorem gd_Law_isTextWell_9 : decode method_9_code 9 = .ok (.iconst 0, 1) := by decide +kernel
theorem gd_Law_isTextWell_10 : decode method_9_code 10 = .ok (.istore 5, 2) := by decide +kernel
theorem gd_Law_isTextWell_12 : decode method_9_code 12 = .ok (.iload 5, 2) := by decide +kernel
theorem gd_Law_isTextWell_14 : decode method_9_code 14 = .ok (.iload_n 3, 1) := by decide +kernel
theorem gd_Law_isTextWell_15 : decode method_9_code 15 = .ok (.if_icmp .gt 31, 3) := by decide +kernel
theorem gd_Law_isTextWell_18 : decode method_9_code 18 = .ok (.iload 4, 2) := by decide +kernel
theorem gd_Law_isTextWell_20 : decode method_9_code 20 = .ok (.ifCond .eq 17, 3) := by decide +kernel
theorem gd_Law_isTextWell_23 : decode method_9_code 23 = .ok (.aload_n 0, 1) := by decide +kernel
theorem gd_Law_isTextWell_24 : decode method_9_code 24 = .ok (.iload 5, 2) := by decide +kernel
theorem gd_Law_isTextWell_26 : decode method_9_code 26 = .ok (.iload_n 3, 1) := by decide +kernel
theorem gd_Law_isTextWell_27 : decode method_9_code 27 = .ok (.invokestatic 76, 3) := by decide +kernel
theorem gd_Law_isTextWell_30 : decode method_9_code 30 = .ok (.ifCond .eq 7, 3) := by decide +kernel
theorem gd_Law_isTextWell_33 : decode method_9_code 33 = .ok (.iconst 1, 1) := by decide +kernel
theorem gd_Law_isTextWell_34 : decode method_9_code 34 = .ok (.goto 4, 3) := by decide +kernel
theorem gd_Law_isTextWell_37 : decode method_9_code 37 = .ok (.iconst 0, 1) := by decide +kernel
theorem gd_Law_isTextWell_38 : decode method_9_code 38 = .ok (.istore 4, 2) := by decide +kernel
theorem gd_Law_isTextWell_40 : decode method_9_code 40 = .ok (.iinc 5 1, 3) := by decide +kernel
theorem gd_Law_isTextWell_43 : decode method_9_code 43 = .ok (.goto (-31), 3) := by decide +kernel
theorem gd_Law_isTextWell_46 : decode method_9_code 46 = .ok (.aload_n 0, 1) := by decide +kernel
theorem gd_Law_isTextWell_47 : decode method_9_code 47 = .ok (.invokevirtual 80, 3) := by decide +kernel
theorem gd_Law_isTextWell_50 : decode method_9_code 50 = .ok (.istore 5, 2) := by decide +kernel
theorem gd_Law_isTextWell_52 : decode method_9_code 52 = .ok (.aload_n 0, 1) := by decide +kernel
theorem gd_Law_isTextWell_53 : decode method_9_code 53 = .ok (.iload_n 3, 1) := by decide +kernel
theorem gd_Law_isTextWell_54 : decode method_9_code 54 = .ok (.invokevirtual 34, 3) := by decide +kernel
theorem gd_Law_isTextWell_57 : decode method_9_code 57 = .ok (.istore 6, 2) := by decide +kernel
theorem gd_Law_isTextWell_59 : decode method_9_code 59 = .ok (.aload_n 1, 1) := by decide +kernel
theorem gd_Law_isTextWell_60 : decode method_9_code 60 = .ok (.iconst 0, 1) := by decide +kernel
theorem gd_Law_isTextWell_61 : decode method_9_code 61 = .ok (.iconst 0, 1) := by decide +kernel
theorem gd_Law_isTextWell_62 : decode method_9_code 62 = .ok (.iastore, 1) := by decide +kernel
theorem gd_Law_isTextWell_63 : decode method_9_code 63 = .ok (.aload_n 2, 1) := by decide +kernel
theorem gd_Law_isTextWell_64 : decode method_9_code 64 = .ok (.iconst 0, 1) := by decide +kernel
theorem gd_Law_isTextWell_65 : decode method_9_code 65 = .ok (.iconst 0, 1) := by decide +kernel
theorem gd_Law_isTextWell_66 : decode method_9_code 66 = .ok (.iastore, 1) := by decide +kernel
theorem gd_Law_isTextWell_67 : decode method_9_code 67 = .ok (.iload 4, 2) := by decide +kernel
theorem gd_Law_isTextWell_69 : decode method_9_code 69 = .ok (.ifCond .eq 73, 3) := by decide +kernel
theorem gd_Law_isTextWell_72 : decode method_9_code 72 = .ok (.iload 5, 2) := by decide +kernel
theorem gd_Law_isTextWell_74 : decode method_9_code 74 = .ok (.ifCond .ne 7, 3) := by decide +kernel
theorem gd_Law_isTextWell_77 : decode method_9_code 77 = .ok (.iconst 1, 1) := by decide +kernel
theorem gd_Law_isTextWell_78 : decode method_9_code 78 = .ok (.goto 4, 3) := by decide +kernel
theorem gd_Law_isTextWell_81 : decode method_9_code 81 = .ok (.iconst 0, 1) := by decide +kernel
theorem gd_Law_isTextWell_82 : decode method_9_code 82 = .ok (.aload_n 0, 1) := by decide +kernel
theorem gd_Law_isTextWell_83 : decode method_9_code 83 = .ok (.iload_n 3, 1) := by decide +kernel
theorem gd_Law_isTextWell_84 : decode method_9_code 84 = .ok (.invokevirtual 27, 3) := by decide +kernel
theorem gd_Law_isTextWell_87 : decode method_9_code 87 = .ok (.iconst 1, 1) := by decide +kernel
theorem gd_Law_isTextWell_88 : decode method_9_code 88 = .ok (.if_icmp .ne 7, 3) := by decide +kernel
theorem gd_Law_isTextWell_91 : decode method_9_code 91 = .ok (.iconst 1, 1) := by decide +kernel
theorem gd_Law_isTextWell_92 : decode method_9_code 92 = .ok (.goto 4, 3) := by decide +kernel
theorem gd_Law_isTextWell_95 : decode method_9_code 95 = .ok (.iconst 0, 1) := by decide +kernel
theorem gd_Law_isTextWell_96 : decode method_9_code 96 = .ok (.if_icmp .ne 46, 3) := by decide +kernel
theorem gd_Law_isTextWell_99 : decode method_9_code 99 = .ok (.iload 5, 2) := by decide +kernel
theorem gd_Law_isTextWell_101 : decode method_9_code 101 = .ok (.ifCond .ge 7, 3) := by decide +kernel
theorem gd_Law_isTextWell_104 : decode method_9_code 104 = .ok (.iconst 1, 1) := by decide +kernel
theorem gd_Law_isTextWell_105 : decode method_9_code 105 = .ok (.goto 4, 3) := by decide +kernel
theorem gd_Law_isTextWell_108 : decode method_9_code 108 = .ok (.iconst 0, 1) := by decide +kernel
theorem gd_Law_isTextWell_109 : decode method_9_code 109 = .ok (.aload_n 0, 1) := by decide +kernel
theorem gd_Law_isTextWell_110 : decode method_9_code 110 = .ok (.iconst 0, 1) := by decide +kernel
theorem gd_Law_isTextWell_111 : decode method_9_code 111 = .ok (.iconst 3, 1) := by decide +kernel
theorem gd_Law_isTextWell_112 : decode method_9_code 112 = .ok (.invokevirtual 83, 3) := by decide +kernel
theorem gd_Law_isTextWell_115 : decode method_9_code 115 = .ok (.ifCond .ne 7, 3) := by decide +kernel
theorem gd_Law_isTextWell_118 : decode method_9_code 118 = .ok (.iconst 1, 1) := by decide +kernel
theorem gd_Law_isTextWell_119 : decode method_9_code 119 = .ok (.goto 4, 3) := by decide +kernel
theorem gd_Law_isTextWell_122 : decode method_9_code 122 = .ok (.iconst 0, 1) := by decide +kernel
theorem gd_Law_isTextWell_123 : decode method_9_code 123 = .ok (.if_icmp .ne 19, 3) := by decide +kernel
theorem gd_Law_isTextWell_126 : decode method_9_code 126 = .ok (.iload 6, 2) := by decide +kernel
theorem gd_Law_isTextWell_128 : decode method_9_code 128 = .ok (.ifCond .lt 10, 3) := by decide +kernel
theorem gd_Law_isTextWell_131 : decode method_9_code 131 = .ok (.iload 5, 2) := by decide +kernel
theorem gd_Law_isTextWell_133 : decode method_9_code 133 = .ok (.iload 6, 2) := by decide +kernel
theorem gd_Law_isTextWell_135 : decode method_9_code 135 = .ok (.if_icmp .gt 7, 3) := by decide +kernel
theorem gd_Law_isTextWell_138 : decode method_9_code 138 = .ok (.iconst 1, 1) := by decide +kernel
theorem gd_Law_isTextWell_139 : decode method_9_code 139 = .ok (.goto 4, 3) := by decide +kernel
theorem gd_Law_isTextWell_142 : decode method_9_code 142 = .ok (.iconst 0, 1) := by decide +kernel
theorem gd_Law_isTextWell_143 : decode method_9_code 143 = .ok (.istore 4, 2) := by decide +kernel
theorem gd_Law_isTextWell_145 : decode method_9_code 145 = .ok (.iload 4, 2) := by decide +kernel
theorem gd_Law_isTextWell_147 : decode method_9_code 147 = .ok (.ifCond .eq 17, 3) := by decide +kernel
theorem gd_Law_isTextWell_150 : decode method_9_code 150 = .ok (.aload_n 0, 1) := by decide +kernel
theorem gd_Law_isTextWell_151 : decode method_9_code 151 = .ok (.iload_n 3, 1) := by decide +kernel
theorem gd_Law_isTextWell_152 : decode method_9_code 152 = .ok (.aload_n 1, 1) := by decide +kernel
theorem gd_Law_isTextWell_153 : decode method_9_code 153 = .ok (.aload_n 2, 1) := by decide +kernel
theorem gd_Law_isTextWell_154 : decode method_9_code 154 = .ok (.invokestatic 86, 3) := by decide +kernel
theorem gd_Law_isTextWell_157 : decode method_9_code 157 = .ok (.ifCond .eq 7, 3) := by decide +kernel
theorem gd_Law_isTextWell_160 : decode method_9_code 160 = .ok (.iconst 1, 1) := by decide +kernel
theorem gd_Law_isTextWell_161 : decode method_9_code 161 = .ok (.goto 4, 3) := by decide +kernel
theorem gd_Law_isTextWell_164 : decode method_9_code 164 = .ok (.iconst 0, 1) := by decide +kernel
theorem gd_Law_isTextWell_165 : decode method_9_code 165 = .ok (.ireturn, 1) := by decide +kernel
theorem gd_Law_isPlaceWell_0 : decode method_6_code 0 = .ok (.aload_n 0, 1) := by decide +kernel
theorem gd_Law_isPlaceWell_1 : decode method_6_code 1 = .ok (.iload_n 1, 1) := by decide +kernel
theorem gd_Law_isPlaceWell_2 : decode method_6_code 2 = .ok (.invokevirtual 27, 3) := by decide +kernel
theorem gd_Law_isPlaceWell_5 : decode method_6_code 5 = .ok (.istore_n 3, 1) := by decide +kernel
theorem gd_Law_isPlaceWell_6 : decode method_6_code 6 = .ok (.aload_n 0, 1) := by decide +kernel
theorem gd_Law_isPlaceWell_7 : decode method_6_code 7 = .ok (.iload_n 1, 1) := by decide +kernel
theorem gd_Law_isPlaceWell_8 : decode method_6_code 8 = .ok (.invokevirtual 31, 3) := by decide +kernel
theorem gd_Law_isPlaceWell_11 : decode method_6_code 11 = .ok (.istore 4, 2) := by decide +kernel
theorem gd_Law_isPlaceWell_13 : decode method_6_code 13 = .ok (.aload_n 0, 1) := by decide +kernel
theorem gd_Law_isPlaceWell_14 : decode method_6_code 14 = .ok (.iload_n 1, 1) := by decide +kernel
theorem gd_Law_isPlaceWell_15 : decode method_6_code 15 = .ok (.invokevirtual 34, 3) := by decide +kernel
theorem gd_Law_isPlaceWell_18 : decode method_6_code 18 = .ok (.istore 5, 2) := by decide +kernel
theorem gd_Law_isPlaceWell_20 : decode method_6_code 20 = .ok (.iload_n 1, 1) := by decide +kernel
theorem gd_Law_isPlaceWell_21 : decode method_6_code 21 = .ok (.iload_n 2, 1) := by decide +kernel
theorem gd_Law_isPlaceWell_22 : decode method_6_code 22 = .ok (.if_icmp .eq 40, 3) := by decide +kernel
theorem gd_Law_isPlaceWell_25 : decode method_6_code 25 = .ok (.iload 4, 2) := by decide +kernel
theorem gd_Law_isPlaceWell_27 : decode method_6_code 27 = .ok (.aload_n 0, 1) := by decide +kernel
theorem gd_Law_isPlaceWell_28 : decode method_6_code 28 = .ok (.iload_n 1, 1) := by decide +kernel
theorem gd_Law_isPlaceWell_29 : decode method_6_code 29 = .ok (.invokevirtual 37, 3) := by decide +kernel
theorem gd_Law_isPlaceWell_32 : decode method_6_code 32 = .ok (.ishr, 1) := by decide +kernel
theorem gd_Law_isPlaceWell_33 : decode method_6_code 33 = .ok (.iconst 1, 1) := by decide +kernel
theorem gd_Law_isPlaceWell_34 : decode method_6_code 34 = .ok (.iand, 1) := by decide +kernel
theorem gd_Law_isPlaceWell_35 : decode method_6_code 35 = .ok (.iconst 1, 1) := by decide +kernel
theorem gd_Law_isPlaceWell_36 : decode method_6_code 36 = .ok (.if_icmp .ne 7, 3) := by decide +kernel
theorem gd_Law_isPlaceWell_39 : decode method_6_code 39 = .ok (.iconst 1, 1) := by decide +kernel
theorem gd_Law_isPlaceWell_40 : decode method_6_code 40 = .ok (.goto 4, 3) := by decide +kernel
theorem gd_Law_isPlaceWell_43 : decode method_6_code 43 = .ok (.iconst 0, 1) := by decide +kernel
theorem gd_Law_isPlaceWell_44 : decode method_6_code 44 = .ok (.aload_n 0, 1) := by decide +kernel
theorem gd_Law_isPlaceWell_45 : decode method_6_code 45 = .ok (.iload_n 1, 1) := by decide +kernel
theorem gd_Law_isPlaceWell_46 : decode method_6_code 46 = .ok (.iconst 1, 1) := by decide +kernel
theorem gd_Law_isPlaceWell_47 : decode method_6_code 47 = .ok (.iadd, 1) := by decide +kernel
theorem gd_Law_isPlaceWell_48 : decode method_6_code 48 = .ok (.invokevirtual 34, 3) := by decide +kernel
theorem gd_Law_isPlaceWell_51 : decode method_6_code 51 = .ok (.ifCond .lt 7, 3) := by decide +kernel
theorem gd_Law_isPlaceWell_54 : decode method_6_code 54 = .ok (.iconst 1, 1) := by decide +kernel
theorem gd_Law_isPlaceWell_55 : decode method_6_code 55 = .ok (.goto 4, 3) := by decide +kernel
theorem gd_Law_isPlaceWell_58 : decode method_6_code 58 = .ok (.iconst 0, 1) := by decide +kernel
theorem gd_Law_isPlaceWell_59 : decode method_6_code 59 = .ok (.if_icmp .ne 7, 3) := by decide +kernel
theorem gd_Law_isPlaceWell_62 : decode method_6_code 62 = .ok (.iconst 1, 1) := by decide +kernel
theorem gd_Law_isPlaceWell_63 : decode method_6_code 63 = .ok (.goto 4, 3) := by decide +kernel
theorem gd_Law_isPlaceWell_66 : decode method_6_code 66 = .ok (.iconst 0, 1) := by decide +kernel
theorem gd_Law_isPlaceWell_67 : decode method_6_code 67 = .ok (.istore 6, 2) := by decide +kernel
theorem gd_Law_isPlaceWell_69 : decode method_6_code 69 = .ok (.iload 6, 2) := by decide +kernel
theorem gd_Law_isPlaceWell_71 : decode method_6_code 71 = .ok (.ifCond .eq 140, 3) := by decide +kernel
theorem gd_Law_isPlaceWell_74 : decode method_6_code 74 = .ok (.iload 4, 2) := by decide +kernel
theorem gd_Law_isPlaceWell_76 : decode method_6_code 76 = .ok (.bipush 26, 2) := by decide +kernel
theorem gd_Law_isPlaceWell_78 : decode method_6_code 78 = .ok (.ishr, 1) := by decide +kernel
theorem gd_Law_isPlaceWell_79 : decode method_6_code 79 = .ok (.iconst 1, 1) := by decide +kernel
theorem gd_Law_isPlaceWell_80 : decode method_6_code 80 = .ok (.iand, 1) := by decide +kernel
theorem gd_Law_isPlaceWell_81 : decode method_6_code 81 = .ok (.iload_n 3, 1) := by decide +kernel
theorem gd_Law_isPlaceWell_82 : decode method_6_code 82 = .ok (.if_icmp .ne 129, 3) := by decide +kernel
theorem gd_Law_isPlaceWell_85 : decode method_6_code 85 = .ok (.iload 5, 2) := by decide +kernel
theorem gd_Law_isPlaceWell_87 : decode method_6_code 87 = .ok (.ifCond .ne 7, 3) := by decide +kernel
theorem gd_Law_isPlaceWell_90 : decode method_6_code 90 = .ok (.iconst 1, 1) := by decide +kernel
theorem gd_Law_isPlaceWell_91 : decode method_6_code 91 = .ok (.goto 4, 3) := by decide +kernel
theorem gd_Law_isPlaceWell_94 : decode method_6_code 94 = .ok (.iconst 0, 1) := by decide +kernel
theorem gd_Law_isPlaceWell_95 : decode method_6_code 95 = .ok (.iload_n 3, 1) := by decide +kernel
theorem gd_Law_isPlaceWell_96 : decode method_6_code 96 = .ok (.iconst 1, 1) := by decide +kernel
theorem gd_Law_isPlaceWell_97 : decode method_6_code 97 = .ok (.if_icmp .ne 7, 3) := by decide +kernel
theorem gd_Law_isPlaceWell_100 : decode method_6_code 100 = .ok (.iconst 1, 1) := by decide +kernel
theorem gd_Law_isPlaceWell_101 : decode method_6_code 101 = .ok (.goto 4, 3) := by decide +kernel
theorem gd_Law_isPlaceWell_104 : decode method_6_code 104 = .ok (.iconst 0, 1) := by decide +kernel
theorem gd_Law_isPlaceWell_105 : decode method_6_code 105 = .ok (.if_icmp .ne 106, 3) := by decide +kernel
theorem gd_Law_isPlaceWell_108 : decode method_6_code 108 = .ok (.iload 5, 2) := by decide +kernel
theorem gd_Law_isPlaceWell_110 : decode method_6_code 110 = .ok (.ifCond .lt 7, 3) := by decide +kernel
theorem gd_Law_isPlaceWell_113 : decode method_6_code 113 = .ok (.iconst 1, 1) := by decide +kernel
theorem gd_Law_isPlaceWell_114 : decode method_6_code 114 = .ok (.goto 4, 3) := by decide +kernel
theorem gd_Law_isPlaceWell_117 : decode method_6_code 117 = .ok (.iconst 0, 1) := by decide +kernel
theorem gd_Law_isPlaceWell_118 : decode method_6_code 118 = .ok (.iload 4, 2) := by decide +kernel
theorem gd_Law_isPlaceWell_120 : decode method_6_code 120 = .ok (.ifCond .eq 7, 3) := by decide +kernel
theorem gd_Law_isPlaceWell_123 : decode method_6_code 123 = .ok (.iconst 1, 1) := by decide +kernel
theorem gd_Law_isPlaceWell_124 : decode method_6_code 124 = .ok (.goto 4, 3) := by decide +kernel
theorem gd_Law_isPlaceWell_127 : decode method_6_code 127 = .ok (.iconst 0, 1) := by decide +kernel
theorem gd_Law_isPlaceWell_128 : decode method_6_code 128 = .ok (.if_icmp .ne 83, 3) := by decide +kernel
theorem gd_Law_isPlaceWell_131 : decode method_6_code 131 = .ok (.aload_n 0, 1) := by decide +kernel
theorem gd_Law_isPlaceWell_132 : decode method_6_code 132 = .ok (.iconst 0, 1) := by decide +kernel
theorem gd_Law_isPlaceWell_133 : decode method_6_code 133 = .ok (.iconst 0, 1) := by decide +kernel
theorem gd_Law_isPlaceWell_134 : decode method_6_code 134 = .ok (.iload_n 1, 1) := by decide +kernel
theorem gd_Law_isPlaceWell_135 : decode method_6_code 135 = .ok (.invokevirtual 40, 3) := by decide +kernel
theorem gd_Law_isPlaceWell_138 : decode method_6_code 138 = .ok (.iload_n 3, 1) := by decide +kernel
theorem gd_Law_isPlaceWell_139 : decode method_6_code 139 = .ok (.if_icmp .ne 72, 3) := by decide +kernel
theorem gd_Law_isPlaceWell_142 : decode method_6_code 142 = .ok (.aload_n 0, 1) := by decide +kernel
theorem gd_Law_isPlaceWell_143 : decode method_6_code 143 = .ok (.iconst 0, 1) := by decide +kernel
theorem gd_Law_isPlaceWell_144 : decode method_6_code 144 = .ok (.iconst 0, 1) := by decide +kernel
theorem gd_Law_isPlaceWell_145 : decode method_6_code 145 = .ok (.iload_n 1, 1) := by decide +kernel
theorem gd_Law_isPlaceWell_146 : decode method_6_code 146 = .ok (.invokevirtual 44, 3) := by decide +kernel
theorem gd_Law_isPlaceWell_149 : decode method_6_code 149 = .ok (.lconst 0, 1) := by decide +kernel
theorem gd_Law_isPlaceWell_150 : decode method_6_code 150 = .ok (.lcmp, 1) := by decide +kernel
theorem gd_Law_isPlaceWell_151 : decode method_6_code 151 = .ok (.ifCond .eq 7, 3) := by decide +kernel
theorem gd_Law_isPlaceWell_154 : decode method_6_code 154 = .ok (.iconst 1, 1) := by decide +kernel
theorem gd_Law_isPlaceWell_155 : decode method_6_code 155 = .ok (.goto 4, 3) := by decide +kernel
theorem gd_Law_isPlaceWell_158 : decode method_6_code 158 = .ok (.iconst 0, 1) := by decide +kernel
theorem gd_Law_isPlaceWell_159 : decode method_6_code 159 = .ok (.iload_n 3, 1) := by decide +kernel
theorem gd_Law_isPlaceWell_160 : decode method_6_code 160 = .ok (.iconst 1, 1) := by decide +kernel
theorem gd_Law_isPlaceWell_161 : decode method_6_code 161 = .ok (.if_icmp .ne 7, 3) := by decide +kernel
theorem gd_Law_isPlaceWell_164 : decode method_6_code 164 = .ok (.iconst 1, 1) := by decide +kernel
theorem gd_Law_isPlaceWell_165 : decode method_6_code 165 = .ok (.goto 4, 3) := by decide +kernel
theorem gd_Law_isPlaceWell_168 : decode method_6_code 168 = .ok (.iconst 0, 1) := by decide +kernel
theorem gd_Law_isPlaceWell_169 : decode method_6_code 169 = .ok (.if_icmp .ne 42, 3) := by decide +kernel
theorem gd_Law_isPlaceWell_172 : decode method_6_code 172 = .ok (.aload_n 0, 1) := by decide +kernel
theorem gd_Law_isPlaceWell_173 : decode method_6_code 173 = .ok (.iload_n 1, 1) := by decide +kernel
theorem gd_Law_isPlaceWell_174 : decode method_6_code 174 = .ok (.invokevirtual 48, 3) := by decide +kernel
theorem gd_Law_isPlaceWell_177 : decode method_6_code 177 = .ok (.iload_n 1, 1) := by decide +kernel
theorem gd_Law_isPlaceWell_178 : decode method_6_code 178 = .ok (.ifCond .ne 7, 3) := by decide +kernel
theorem gd_Law_isPlaceWell_181 : decode method_6_code 181 = .ok (.iconst 0, 1) := by decide +kernel
theorem gd_Law_isPlaceWell_182 : decode method_6_code 182 = .ok (.goto 4, 3) := by decide +kernel
theorem gd_Law_isPlaceWell_185 : decode method_6_code 185 = .ok (.iload_n 3, 1) := by decide +kernel
theorem gd_Law_isPlaceWell_186 : decode method_6_code 186 = .ok (.if_icmp .ne 25, 3) := by decide +kernel
theorem gd_Law_isPlaceWell_189 : decode method_6_code 189 = .ok (.aload_n 0, 1) := by decide +kernel
theorem gd_Law_isPlaceWell_190 : decode method_6_code 190 = .ok (.iload_n 1, 1) := by decide +kernel
theorem gd_Law_isPlaceWell_191 : decode method_6_code 191 = .ok (.invokevirtual 51, 3) := by decide +kernel
theorem gd_Law_isPlaceWell_194 : decode method_6_code 194 = .ok (.iload 5, 2) := by decide +kernel
theorem gd_Law_isPlaceWell_196 : decode method_6_code 196 = .ok (.ifCond .lt 7, 3) := by decide +kernel
theorem gd_Law_isPlaceWell_199 : decode method_6_code 199 = .ok (.iconst 1, 1) := by decide +kernel
theorem gd_Law_isPlaceWell_200 : decode method_6_code 200 = .ok (.goto 4, 3) := by decide +kernel
theorem gd_Law_isPlaceWell_203 : decode method_6_code 203 = .ok (.iconst 0, 1) := by decide +kernel
theorem gd_Law_isPlaceWell_204 : decode method_6_code 204 = .ok (.if_icmp .lt 7, 3) := by decide +kernel
theorem gd_Law_isPlaceWell_207 : decode method_6_code 207 = .ok (.iconst 1, 1) := by decide +kernel
theorem gd_Law_isPlaceWell_208 : decode method_6_code 208 = .ok (.goto 4, 3) := by decide +kernel
theorem gd_Law_isPlaceWell_211 : decode method_6_code 211 = .ok (.iconst 0, 1) := by decide +kernel
theorem gd_Law_isPlaceWell_212 : decode method_6_code 212 = .ok (.ireturn, 1) := by decide +kernel
theorem gd_House_next_0 : decode prog_1_method_20_code 0 = .ok (.aload_n 0, 1) := by decide +kernel
theorem gd_House_next_1 : decode prog_1_method_20_code 1 = .ok (.getfield 129, 3) := by decide +kernel
theorem gd_House_next_4 : decode prog_1_method_20_code 4 = .ok (.ifCond .ne 7, 3) := by decide +kernel
theorem gd_House_next_7 : decode prog_1_method_20_code 7 = .ok (.sipush (-1003), 3) := by decide +kernel
theorem gd_House_next_10 : decode prog_1_method_20_code 10 = .ok (.ireturn, 1) := by decide +kernel
theorem gd_House_next_11 : decode prog_1_method_20_code 11 = .ok (.aload_n 0, 1) := by decide +kernel
theorem gd_House_next_12 : decode prog_1_method_20_code 12 = .ok (.iload_n 1, 1) := by decide +kernel
theorem gd_House_next_13 : decode prog_1_method_20_code 13 = .ok (.invokevirtual 221, 3) := by decide +kernel
theorem gd_House_next_16 : decode prog_1_method_20_code 16 = .ok (.ifCond .ne 7, 3) := by decide +kernel
theorem gd_House_next_19 : decode prog_1_method_20_code 19 = .ok (.sipush (-1001), 3) := by decide +kernel
theorem gd_House_next_22 : decode prog_1_method_20_code 22 = .ok (.ireturn, 1) := by decide +kernel
theorem gd_House_next_23 : decode prog_1_method_20_code 23 = .ok (.aload_n 0, 1) := by decide +kernel
theorem gd_House_next_24 : decode prog_1_method_20_code 24 = .ok (.getfield 55, 3) := by decide +kernel
theorem gd_House_next_27 : decode prog_1_method_20_code 27 = .ok (.invokevirtual 224, 3) := by decide +kernel
theorem gd_House_next_30 : decode prog_1_method_20_code 30 = .ok (.aload_n 0, 1) := by decide +kernel
theorem gd_House_next_31 : decode prog_1_method_20_code 31 = .ok (.getfield 55, 3) := by decide +kernel
theorem gd_House_next_34 : decode prog_1_method_20_code 34 = .ok (.getfield 231, 3) := by decide +kernel
theorem gd_House_next_37 : decode prog_1_method_20_code 37 = .ok (.iload_n 1, 1) := by decide +kernel
theorem gd_House_next_38 : decode prog_1_method_20_code 38 = .ok (.iaload, 1) := by decide +kernel
theorem gd_House_next_39 : decode prog_1_method_20_code 39 = .ok (.ireturn, 1) := by decide +kernel
theorem gd_House_end_0 : decode prog_1_method_24_code 0 = .ok (.aload_n 0, 1) := by decide +kernel
theorem gd_House_end_1 : decode prog_1_method_24_code 1 = .ok (.getfield 129, 3) := by decide +kernel
theorem gd_House_end_4 : decode prog_1_method_24_code 4 = .ok (.ifCond .ne 7, 3) := by decide +kernel
theorem gd_House_end_7 : decode prog_1_method_24_code 7 = .ok (.sipush (-1003), 3) := by decide +kernel
theorem gd_House_end_10 : decode prog_1_method_24_code 10 = .ok (.ireturn, 1) := by decide +kernel
theorem gd_House_end_11 : decode prog_1_method_24_code 11 = .ok (.aload_n 0, 1) := by decide +kernel
theorem gd_House_end_12 : decode prog_1_method_24_code 12 = .ok (.iload_n 1, 1) := by decide +kernel
theorem gd_House_end_13 : decode prog_1_method_24_code 13 = .ok (.invokevirtual 221, 3) := by decide +kernel
theorem gd_House_end_16 : decode prog_1_method_24_code 16 = .ok (.ifCond .ne 7, 3) := by decide +kernel
theorem gd_House_end_19 : decode prog_1_method_24_code 19 = .ok (.sipush (-1001), 3) := by decide +kernel
theorem gd_House_end_22 : decode prog_1_method_24_code 22 = .ok (.ireturn, 1) := by decide +kernel
theorem gd_House_end_23 : decode prog_1_method_24_code 23 = .ok (.aload_n 0, 1) := by decide +kernel
theorem gd_House_end_24 : decode prog_1_method_24_code 24 = .ok (.getfield 55, 3) := by decide +kernel
theorem gd_House_end_27 : decode prog_1_method_24_code 27 = .ok (.invokevirtual 224, 3) := by decide +kernel
theorem gd_House_end_30 : decode prog_1_method_24_code 30 = .ok (.aload_n 0, 1) := by decide +kernel
theorem gd_House_end_31 : decode prog_1_method_24_code 31 = .ok (.getfield 64, 3) := by decide +kernel
theorem gd_House_end_34 : decode prog_1_method_24_code 34 = .ok (.iload_n 1, 1) := by decide +kernel
theorem gd_House_end_35 : decode prog_1_method_24_code 35 = .ok (.invokevirtual 241, 3) := by decide +kernel
theorem gd_House_end_38 : decode prog_1_method_24_code 38 = .ok (.ireturn, 1) := by decide +kernel
theorem gd_Wants_behind_0 : decode prog_12_method_3_code 0 = .ok (.aload_n 0, 1) := by decide +kernel
theorem gd_Wants_behind_1 : decode prog_12_method_3_code 1 = .ok (.getfield 44, 3) := by decide +kernel
theorem gd_Wants_behind_4 : decode prog_12_method_3_code 4 = .ok (.iload_n 1, 1) := by decide +kernel
theorem gd_Wants_behind_5 : decode prog_12_method_3_code 5 = .ok (.ishr, 1) := by decide +kernel
theorem gd_Wants_behind_6 : decode prog_12_method_3_code 6 = .ok (.iconst 1, 1) := by decide +kernel
theorem gd_Wants_behind_7 : decode prog_12_method_3_code 7 = .ok (.iand, 1) := by decide +kernel
theorem gd_Wants_behind_8 : decode prog_12_method_3_code 8 = .ok (.ifCond .ne 26, 3) := by decide +kernel
theorem gd_Wants_behind_11 : decode prog_12_method_3_code 11 = .ok (.aload_n 0, 1) := by decide +kernel
theorem gd_Wants_behind_12 : decode prog_12_method_3_code 12 = .ok (.dup, 1) := by decide +kernel
theorem gd_Wants_behind_13 : decode prog_12_method_3_code 13 = .ok (.getfield 44, 3) := by decide +kernel
theorem gd_Wants_behind_16 : decode prog_12_method_3_code 16 = .ok (.iconst 1, 1) := by decide +kernel
theorem gd_Wants_behind_17 : decode prog_12_method_3_code 17 = .ok (.iload_n 1, 1) := by decide +kernel
theorem gd_Wants_behind_18 : decode prog_12_method_3_code 18 = .ok (.ishl, 1) := by decide +kernel
theorem gd_Wants_behind_19 : decode prog_12_method_3_code 19 = .ok (.ior, 1) := by decide +kernel
theorem gd_Wants_behind_20 : decode prog_12_method_3_code 20 = .ok (.putfield 44, 3) := by decide +kernel
theorem gd_Wants_behind_23 : decode prog_12_method_3_code 23 = .ok (.aload_n 0, 1) := by decide +kernel
theorem gd_Wants_behind_24 : decode prog_12_method_3_code 24 = .ok (.getfield 9, 3) := by decide +kernel
theorem gd_Wants_behind_27 : decode prog_12_method_3_code 27 = .ok (.iload_n 1, 1) := by decide +kernel
theorem gd_Wants_behind_28 : decode prog_12_method_3_code 28 = .ok (.aload_n 0, 1) := by decide +kernel
theorem gd_Wants_behind_29 : decode prog_12_method_3_code 29 = .ok (.iload_n 1, 1) := by decide +kernel
theorem gd_Wants_behind_30 : decode prog_12_method_3_code 30 = .ok (.invokevirtual 53, 3) := by decide +kernel
theorem gd_Wants_behind_33 : decode prog_12_method_3_code 33 = .ok (.iastore, 1) := by decide +kernel
theorem gd_Wants_behind_34 : decode prog_12_method_3_code 34 = .ok (.aload_n 0, 1) := by decide +kernel
theorem gd_Wants_behind_35 : decode prog_12_method_3_code 35 = .ok (.getfield 9, 3) := by decide +kernel
theorem gd_Wants_behind_38 : decode prog_12_method_3_code 38 = .ok (.iload_n 1, 1) := by decide +kernel
theorem gd_Wants_behind_39 : decode prog_12_method_3_code 39 = .ok (.iaload, 1) := by decide +kernel
theorem gd_Wants_behind_40 : decode prog_12_method_3_code 40 = .ok (.ireturn, 1) := by decide +kernel
theorem gd_Wants_findWanted_0 : decode prog_12_method_4_code 0 = .ok (.aload_n 0, 1) := by decide +kernel
theorem gd_Wants_findWanted_1 : decode prog_12_method_4_code 1 = .ok (.getfield 15, 3) := by decide +kernel
theorem gd_Wants_findWanted_4 : decode prog_12_method_4_code 4 = .ok (.ldc 57, 2) := by decide +kernel
theorem gd_Wants_findWanted_6 : decode prog_12_method_4_code 6 = .ok (.invokestatic 58, 3) := by decide +kernel
theorem gd_Wants_findWanted_9 : decode prog_12_method_4_code 9 = .ok (.iconst 0, 1) := by decide +kernel
theorem gd_Wants_findWanted_10 : decode prog_12_method_4_code 10 = .ok (.istore_n 2, 1) := by decide +kernel
theorem gd_Wants_findWanted_11 : decode prog_12_method_4_code 11 = .ok (.iload_n 2, 1) := by decide +kernel
theorem gd_Wants_findWanted_12 : decode prog_12_method_4_code 12 = .ok (.aload_n 0, 1) := by decide +kernel
theorem gd_Wants_findWanted_13 : decode prog_12_method_4_code 13 = .ok (.getfield 28, 3) := by decide +kernel
theorem gd_Wants_findWanted_16 : decode prog_12_method_4_code 16 = .ok (.getfield 64, 3) := by decide +kernel
theorem gd_Wants_findWanted_19 : decode prog_12_method_4_code 19 = .ok (.if_icmp .ge 29, 3) := by decide +kernel
theorem gd_Wants_findWanted_22 : decode prog_12_method_4_code 22 = .ok (.aload_n 0, 1) := by decide +kernel
theorem gd_Wants_findWanted_23 : decode prog_12_method_4_code 23 = .ok (.getfield 15, 3) := by decide +kernel
theorem gd_Wants_findWanted_26 : decode prog_12_method_4_code 26 = .ok (.iload_n 2, 1) := by decide +kernel
theorem gd_Wants_findWanted_27 : decode prog_12_method_4_code 27 = .ok (.bipush 9, 2) := by decide +kernel
theorem gd_Wants_findWanted_29 : decode prog_12_method_4_code 29 = .ok (.imul, 1) := by decide +kernel
theorem gd_Wants_findWanted_30 : decode prog_12_method_4_code 30 = .ok (.iload_n 1, 1) := by decide +kernel
theorem gd_Wants_findWanted_31 : decode prog_12_method_4_code 31 = .ok (.iadd, 1) := by decide +kernel
theorem gd_Wants_findWanted_32 : decode prog_12_method_4_code 32 = .ok (.aload_n 0, 1) := by decide +kernel
theorem gd_Wants_findWanted_33 : decode prog_12_method_4_code 33 = .ok (.getfield 32, 3) := by decide +kernel
theorem gd_Wants_findWanted_36 : decode prog_12_method_4_code 36 = .ok (.getfield 69, 3) := by decide +kernel
theorem gd_Wants_findWanted_39 : decode prog_12_method_4_code 39 = .ok (.iload_n 2, 1) := by decide +kernel
theorem gd_Wants_findWanted_40 : decode prog_12_method_4_code 40 = .ok (.iaload, 1) := by decide +kernel
theorem gd_Wants_findWanted_41 : decode prog_12_method_4_code 41 = .ok (.iastore, 1) := by decide +kernel
theorem gd_Wants_findWanted_42 : decode prog_12_method_4_code 42 = .ok (.iinc 2 1, 3) := by decide +kernel
theorem gd_Wants_findWanted_45 : decode prog_12_method_4_code 45 = .ok (.goto (-34), 3) := by decide +kernel
theorem gd_Wants_findWanted_48 : decode prog_12_method_4_code 48 = .ok (.iload_n 1, 1) := by decide +kernel
theorem gd_Wants_findWanted_49 : decode prog_12_method_4_code 49 = .ok (.iconst 1, 1) := by decide +kernel
theorem gd_Wants_findWanted_50 : decode prog_12_method_4_code 50 = .ok (.isub, 1) := by decide +kernel
theorem gd_Wants_findWanted_51 : decode prog_12_method_4_code 51 = .ok (.istore_n 2, 1) := by decide +kernel
theorem gd_Wants_findWanted_52 : decode prog_12_method_4_code 52 = .ok (.iload_n 2, 1) := by decide +kernel
theorem gd_Wants_findWanted_53 : decode prog_12_method_4_code 53 = .ok (.ifCond .lt 91, 3) := by decide +kernel
theorem gd_Wants_findWanted_56 : decode prog_12_method_4_code 56 = .ok (.iconst 0, 1) := by decide +kernel
theorem gd_Wants_findWanted_57 : decode prog_12_method_4_code 57 = .ok (.istore_n 3, 1) := by decide +kernel
theorem gd_Wants_findWanted_58 : decode prog_12_method_4_code 58 = .ok (.iload_n 3, 1) := by decide +kernel
theorem gd_Wants_findWanted_59 : decode prog_12_method_4_code 59 = .ok (.aload_n 0, 1) := by decide +kernel
theorem gd_Wants_findWanted_60 : decode prog_12_method_4_code 60 = .ok (.getfield 28, 3) := by decide +kernel
theorem gd_Wants_findWanted_63 : decode prog_12_method_4_code 63 = .ok (.getfield 64, 3) := by decide +kernel
theorem gd_Wants_findWanted_66 : decode prog_12_method_4_code 66 = .ok (.if_icmp .ge 72, 3) := by decide +kernel
theorem gd_Wants_findWanted_69 : decode prog_12_method_4_code 69 = .ok (.iconst 0, 1) := by decide +kernel
theorem gd_Wants_findWanted_70 : decode prog_12_method_4_code 70 = .ok (.istore 4, 2) := by decide +kernel
theorem gd_Wants_findWanted_72 : decode prog_12_method_4_code 72 = .ok (.iload 4, 2) := by decide +kernel
theorem gd_Wants_findWanted_74 : decode prog_12_method_4_code 74 = .ok (.aload_n 0, 1) := by decide +kernel
theorem gd_Wants_findWanted_75 : decode prog_12_method_4_code 75 = .ok (.getfield 28, 3) := by decide +kernel
theorem gd_Wants_findWanted_78 : decode prog_12_method_4_code 78 = .ok (.getfield 74, 3) := by decide +kernel
theorem gd_Wants_findWanted_81 : decode prog_12_method_4_code 81 = .ok (.if_icmp .ge 51, 3) := by decide +kernel
theorem gd_Wants_findWanted_84 : decode prog_12_method_4_code 84 = .ok (.aload_n 0, 1) := by decide +kernel
theorem gd_Wants_findWanted_85 : decode prog_12_method_4_code 85 = .ok (.getfield 28, 3) := by decide +kernel
theorem gd_Wants_findWanted_88 : decode prog_12_method_4_code 88 = .ok (.getfield 77, 3) := by decide +kernel
theorem gd_Wants_findWanted_91 : decode prog_12_method_4_code 91 = .ok (.iload 4, 2) := by decide +kernel
theorem gd_Wants_findWanted_93 : decode prog_12_method_4_code 93 = .ok (.iaload, 1) := by decide +kernel
theorem gd_Wants_findWanted_94 : decode prog_12_method_4_code 94 = .ok (.bipush 9, 2) := by decide +kernel
theorem gd_Wants_findWanted_96 : decode prog_12_method_4_code 96 = .ok (.imul, 1) := by decide +kernel
theorem gd_Wants_findWanted_97 : decode prog_12_method_4_code 97 = .ok (.iload_n 2, 1) := by decide +kernel
theorem gd_Wants_findWanted_98 : decode prog_12_method_4_code 98 = .ok (.iadd, 1) := by decide +kernel
theorem gd_Wants_findWanted_99 : decode prog_12_method_4_code 99 = .ok (.istore 5, 2) := by decide +kernel
theorem gd_Wants_findWanted_101 : decode prog_12_method_4_code 101 = .ok (.aload_n 0, 1) := by decide +kernel
theorem gd_Wants_findWanted_102 : decode prog_12_method_4_code 102 = .ok (.getfield 15, 3) := by decide +kernel
theorem gd_Wants_findWanted_105 : decode prog_12_method_4_code 105 = .ok (.iload 5, 2) := by decide +kernel
theorem gd_Wants_findWanted_107 : decode prog_12_method_4_code 107 = .ok (.aload_n 0, 1) := by decide +kernel
theorem gd_Wants_findWanted_108 : decode prog_12_method_4_code 108 = .ok (.getfield 15, 3) := by decide +kernel
theorem gd_Wants_findWanted_111 : decode prog_12_method_4_code 111 = .ok (.iload 5, 2) := by decide +kernel
theorem gd_Wants_findWanted_113 : decode prog_12_method_4_code 113 = .ok (.iaload, 1) := by decide +kernel
theorem gd_Wants_findWanted_114 : decode prog_12_method_4_code 114 = .ok (.aload_n 0, 1) := by decide +kernel
theorem gd_Wants_findWanted_115 : decode prog_12_method_4_code 115 = .ok (.iload 4, 2) := by decide +kernel
theorem gd_Wants_findWanted_117 : decode prog_12_method_4_code 117 = .ok (.iload_n 2, 1) := by decide +kernel
theorem gd_Wants_findWanted_118 : decode prog_12_method_4_code 118 = .ok (.iload_n 1, 1) := by decide +kernel
theorem gd_Wants_findWanted_119 : decode prog_12_method_4_code 119 = .ok (.invokevirtual 80, 3) := by decide +kernel
theorem gd_Wants_findWanted_122 : decode prog_12_method_4_code 122 = .ok (.invokestatic 47, 3) := by decide +kernel
theorem gd_Wants_findWanted_125 : decode prog_12_method_4_code 125 = .ok (.iastore, 1) := by decide +kernel
theorem gd_Wants_findWanted_126 : decode prog_12_method_4_code 126 = .ok (.iinc 4 1, 3) := by decide +kernel
theorem gd_Wants_findWanted_129 : decode prog_12_method_4_code 129 = .ok (.goto (-57), 3) := by decide +kernel
theorem gd_Wants_findWanted_132 : decode prog_12_method_4_code 132 = .ok (.iinc 3 1, 3) := by decide +kernel
theorem gd_Wants_findWanted_135 : decode prog_12_method_4_code 135 = .ok (.goto (-77), 3) := by decide +kernel
theorem gd_Wants_findWanted_138 : decode prog_12_method_4_code 138 = .ok (.iinc 2 (-1), 3) := by decide +kernel
theorem gd_Wants_findWanted_141 : decode prog_12_method_4_code 141 = .ok (.goto (-89), 3) := by decide +kernel
theorem gd_Wants_findWanted_144 : decode prog_12_method_4_code 144 = .ok (.aload_n 0, 1) := by decide +kernel
theorem gd_Wants_findWanted_145 : decode prog_12_method_4_code 145 = .ok (.getfield 15, 3) := by decide +kernel
theorem gd_Wants_findWanted_148 : decode prog_12_method_4_code 148 = .ok (.iconst 0, 1) := by decide +kernel
theorem gd_Wants_findWanted_149 : decode prog_12_method_4_code 149 = .ok (.iaload, 1) := by decide +kernel
theorem gd_Wants_findWanted_150 : decode prog_12_method_4_code 150 = .ok (.ldc 57, 2) := by decide +kernel
theorem gd_Wants_findWanted_152 : decode prog_12_method_4_code 152 = .ok (.if_icmp .ge 12, 3) := by decide +kernel
theorem gd_Wants_findWanted_155 : decode prog_12_method_4_code 155 = .ok (.aload_n 0, 1) := by decide +kernel
theorem gd_Wants_findWanted_156 : decode prog_12_method_4_code 156 = .ok (.getfield 15, 3) := by decide +kernel
theorem gd_Wants_findWanted_159 : decode prog_12_method_4_code 159 = .ok (.iconst 0, 1) := by decide +kernel
theorem gd_Wants_findWanted_160 : decode prog_12_method_4_code 160 = .ok (.iaload, 1) := by decide +kernel
theorem gd_Wants_findWanted_161 : decode prog_12_method_4_code 161 = .ok (.goto 4, 3) := by decide +kernel
theorem gd_Wants_findWanted_164 : decode prog_12_method_4_code 164 = .ok (.iconst (-1), 1) := by decide +kernel
theorem gd_Wants_findWanted_165 : decode prog_12_method_4_code 165 = .ok (.ireturn, 1) := by decide +kernel
theorem gd_Wants_wantedByRow_0 : decode prog_12_method_5_code 0 = .ok (.ldc 57, 2) := by decide +kernel
theorem gd_Wants_wantedByRow_2 : decode prog_12_method_5_code 2 = .ok (.istore 4, 2) := by decide +kernel
theorem gd_Wants_wantedByRow_4 : decode prog_12_method_5_code 4 = .ok (.iconst 1, 1) := by decide +kernel
theorem gd_Wants_wantedByRow_5 : decode prog_12_method_5_code 5 = .ok (.iload_n 2, 1) := by decide +kernel
theorem gd_Wants_wantedByRow_6 : decode prog_12_method_5_code 6 = .ok (.ishl, 1) := by decide +kernel
theorem gd_Wants_wantedByRow_7 : decode prog_12_method_5_code 7 = .ok (.istore 5, 2) := by decide +kernel
theorem gd_Wants_wantedByRow_9 : decode prog_12_method_5_code 9 = .ok (.iconst 0, 1) := by decide +kernel
theorem gd_Wants_wantedByRow_10 : decode prog_12_method_5_code 10 = .ok (.istore 6, 2) := by decide +kernel
theorem gd_Wants_wantedByRow_12 : decode prog_12_method_5_code 12 = .ok (.iload 6, 2) := by decide +kernel
theorem gd_Wants_wantedByRow_14 : decode prog_12_method_5_code 14 = .ok (.aload_n 0, 1) := by decide +kernel
theorem gd_Wants_wantedByRow_15 : decode prog_12_method_5_code 15 = .ok (.getfield 28, 3) := by decide +kernel
theorem gd_Wants_wantedByRow_18 : decode prog_12_method_5_code 18 = .ok (.getfield 84, 3) := by decide +kernel
theorem gd_Wants_wantedByRow_21 : decode prog_12_method_5_code 21 = .ok (.iload_n 1, 1) := by decide +kernel
theorem gd_Wants_wantedByRow_22 : decode prog_12_method_5_code 22 = .ok (.iaload, 1) := by decide +kernel
theorem gd_Wants_wantedByRow_23 : decode prog_12_method_5_code 23 = .ok (.if_icmp .ge 133, 3) := by decide +kernel
theorem gd_Wants_wantedByRow_26 : decode prog_12_method_5_code 26 = .ok (.iload 5, 2) := by decide +kernel
theorem gd_Wants_wantedByRow_28 : decode prog_12_method_5_code 28 = .ok (.ifCond .eq 128, 3) := by decide +kernel
theorem gd_Wants_wantedByRow_31 : decode prog_12_method_5_code 31 = .ok (.aload_n 0, 1) := by decide +kernel
theorem gd_Wants_wantedByRow_32 : decode prog_12_method_5_code 32 = .ok (.getfield 28, 3) := by decide +kernel
theorem gd_Wants_wantedByRow_35 : decode prog_12_method_5_code 35 = .ok (.iload_n 1, 1) := by decide +kernel
theorem gd_Wants_wantedByRow_36 : decode prog_12_method_5_code 36 = .ok (.iload 6, 2) := by decide +kernel
theorem gd_Wants_wantedByRow_38 : decode prog_12_method_5_code 38 = .ok (.invokevirtual 87, 3) := by decide +kernel
theorem gd_Wants_wantedByRow_41 : decode prog_12_method_5_code 41 = .ok (.istore 7, 2) := by decide +kernel
theorem gd_Wants_wantedByRow_43 : decode prog_12_method_5_code 43 = .ok (.aload_n 0, 1) := by decide +kernel
theorem gd_Wants_wantedByRow_44 : decode prog_12_method_5_code 44 = .ok (.getfield 32, 3) := by decide +kernel
theorem gd_Wants_wantedByRow_47 : decode prog_12_method_5_code 47 = .ok (.iload_n 1, 1) := by decide +kernel
theorem gd_Wants_wantedByRow_48 : decode prog_12_method_5_code 48 = .ok (.iload 6, 2) := by decide +kernel
theorem gd_Wants_wantedByRow_50 : decode prog_12_method_5_code 50 = .ok (.iconst 1, 1) := by decide +kernel
theorem gd_Wants_wantedByRow_51 : decode prog_12_method_5_code 51 = .ok (.iadd, 1) := by decide +kernel
theorem gd_Wants_wantedByRow_52 : decode prog_12_method_5_code 52 = .ok (.invokevirtual 90, 3) := by decide +kernel
theorem gd_Wants_wantedByRow_55 : decode prog_12_method_5_code 55 = .ok (.istore 8, 2) := by decide +kernel
theorem gd_Wants_wantedByRow_57 : decode prog_12_method_5_code 57 = .ok (.iload_n 2, 1) := by decide +kernel
theorem gd_Wants_wantedByRow_58 : decode prog_12_method_5_code 58 = .ok (.istore 9, 2) := by decide +kernel
theorem gd_Wants_wantedByRow_60 : decode prog_12_method_5_code 60 = .ok (.iload 9, 2) := by decide +kernel
theorem gd_Wants_wantedByRow_62 : decode prog_12_method_5_code 62 = .ok (.iload_n 3, 1) := by decide +kernel
theorem gd_Wants_wantedByRow_63 : decode prog_12_method_5_code 63 = .ok (.if_icmp .ge 48, 3) := by decide +kernel
theorem gd_Wants_wantedByRow_66 : decode prog_12_method_5_code 66 = .ok (.iload 7, 2) := by decide +kernel
theorem gd_Wants_wantedByRow_68 : decode prog_12_method_5_code 68 = .ok (.iconst (-1), 1) := by decide +kernel
theorem gd_Wants_wantedByRow_69 : decode prog_12_method_5_code 69 = .ok (.if_icmp .eq 42, 3) := by decide +kernel
theorem gd_Wants_wantedByRow_72 : decode prog_12_method_5_code 72 = .ok (.iload 5, 2) := by decide +kernel
theorem gd_Wants_wantedByRow_74 : decode prog_12_method_5_code 74 = .ok (.iload 9, 2) := by decide +kernel
theorem gd_Wants_wantedByRow_76 : decode prog_12_method_5_code 76 = .ok (.ishr, 1) := by decide +kernel
theorem gd_Wants_wantedByRow_77 : decode prog_12_method_5_code 77 = .ok (.iconst 1, 1) := by decide +kernel
theorem gd_Wants_wantedByRow_78 : decode prog_12_method_5_code 78 = .ok (.iand, 1) := by decide +kernel
theorem gd_Wants_wantedByRow_79 : decode prog_12_method_5_code 79 = .ok (.ifCond .eq 26, 3) := by decide +kernel
theorem gd_Wants_wantedByRow_82 : decode prog_12_method_5_code 82 = .ok (.iload 4, 2) := by decide +kernel
theorem gd_Wants_wantedByRow_84 : decode prog_12_method_5_code 84 = .ok (.aload_n 0, 1) := by decide +kernel
theorem gd_Wants_wantedByRow_85 : decode prog_12_method_5_code 85 = .ok (.getfield 15, 3) := by decide +kernel
theorem gd_Wants_wantedByRow_88 : decode prog_12_method_5_code 88 = .ok (.iload 7, 2) := by decide +kernel
theorem gd_Wants_wantedByRow_90 : decode prog_12_method_5_code 90 = .ok (.bipush 9, 2) := by decide +kernel
theorem gd_Wants_wantedByRow_92 : decode prog_12_method_5_code 92 = .ok (.imul, 1) := by decide +kernel
theorem gd_Wants_wantedByRow_93 : decode prog_12_method_5_code 93 = .ok (.iload 9, 2) := by decide +kernel
theorem gd_Wants_wantedByRow_95 : decode prog_12_method_5_code 95 = .ok (.iadd, 1) := by decide +kernel
theorem gd_Wants_wantedByRow_96 : decode prog_12_method_5_code 96 = .ok (.iaload, 1) := by decide +kernel
theorem gd_Wants_wantedByRow_97 : decode prog_12_method_5_code 97 = .ok (.iload 8, 2) := by decide +kernel
theorem gd_Wants_wantedByRow_99 : decode prog_12_method_5_code 99 = .ok (.iadd, 1) := by decide +kernel
theorem gd_Wants_wantedByRow_100 : decode prog_12_method_5_code 100 = .ok (.invokestatic 47, 3) := by decide +kernel
theorem gd_Wants_wantedByRow_103 : decode prog_12_method_5_code 103 = .ok (.istore 4, 2) := by decide +kernel
theorem gd_Wants_wantedByRow_105 : decode prog_12_method_5_code 105 = .ok (.iinc 9 1, 3) := by decide +kernel
theorem gd_Wants_wantedByRow_108 : decode prog_12_method_5_code 108 = .ok (.goto (-48), 3) := by decide +kernel
theorem gd_Wants_wantedByRow_111 : decode prog_12_method_5_code 111 = .ok (.aload_n 0, 1) := by decide +kernel
theorem gd_Wants_wantedByRow_112 : decode prog_12_method_5_code 112 = .ok (.getfield 40, 3) := by decide +kernel
theorem gd_Wants_wantedByRow_115 : decode prog_12_method_5_code 115 = .ok (.aload_n 0, 1) := by decide +kernel
theorem gd_Wants_wantedByRow_116 : decode prog_12_method_5_code 116 = .ok (.getfield 28, 3) := by decide +kernel
theorem gd_Wants_wantedByRow_119 : decode prog_12_method_5_code 119 = .ok (.iload_n 1, 1) := by decide +kernel
theorem gd_Wants_wantedByRow_120 : decode prog_12_method_5_code 120 = .ok (.iload 6, 2) := by decide +kernel
theorem gd_Wants_wantedByRow_122 : decode prog_12_method_5_code 122 = .ok (.invokevirtual 93, 3) := by decide +kernel
theorem gd_Wants_wantedByRow_125 : decode prog_12_method_5_code 125 = .ok (.iload 5, 2) := by decide +kernel
theorem gd_Wants_wantedByRow_127 : decode prog_12_method_5_code 127 = .ok (.invokevirtual 96, 3) := by decide +kernel
theorem gd_Wants_wantedByRow_130 : decode prog_12_method_5_code 130 = .ok (.istore 5, 2) := by decide +kernel
theorem gd_Wants_wantedByRow_132 : decode prog_12_method_5_code 132 = .ok (.iload 5, 2) := by decide +kernel
theorem gd_Wants_wantedByRow_134 : decode prog_12_method_5_code 134 = .ok (.iload_n 3, 1) := by decide +kernel
theorem gd_Wants_wantedByRow_135 : decode prog_12_method_5_code 135 = .ok (.ishr, 1) := by decide +kernel
theorem gd_Wants_wantedByRow_136 : decode prog_12_method_5_code 136 = .ok (.iconst 1, 1) := by decide +kernel
theorem gd_Wants_wantedByRow_137 : decode prog_12_method_5_code 137 = .ok (.iand, 1) := by decide +kernel
theorem gd_Wants_wantedByRow_138 : decode prog_12_method_5_code 138 = .ok (.ifCond .eq 12, 3) := by decide +kernel
theorem gd_Wants_wantedByRow_141 : decode prog_12_method_5_code 141 = .ok (.iload 4, 2) := by decide +kernel
theorem gd_Wants_wantedByRow_143 : decode prog_12_method_5_code 143 = .ok (.iload 8, 2) := by decide +kernel
theorem gd_Wants_wantedByRow_145 : decode prog_12_method_5_code 145 = .ok (.invokestatic 47, 3) := by decide +kernel
theorem gd_Wants_wantedByRow_148 : decode prog_12_method_5_code 148 = .ok (.istore 4, 2) := by decide +kernel
theorem gd_Wants_wantedByRow_150 : decode prog_12_method_5_code 150 = .ok (.iinc 6 1, 3) := by decide +kernel
theorem gd_Wants_wantedByRow_153 : decode prog_12_method_5_code 153 = .ok (.goto (-141), 3) := by decide +kernel
theorem gd_Wants_wantedByRow_156 : decode prog_12_method_5_code 156 = .ok (.iload 4, 2) := by decide +kernel
theorem gd_Wants_wantedByRow_158 : decode prog_12_method_5_code 158 = .ok (.ireturn, 1) := by decide +kernel
theorem gd_House_letter_0 : decode prog_1_method_18_code 0 = .ok (.aload_n 0, 1) := by decide +kernel
theorem gd_House_letter_1 : decode prog_1_method_18_code 1 = .ok (.getfield 129, 3) := by decide +kernel
theorem gd_House_letter_4 : decode prog_1_method_18_code 4 = .ok (.ifCond .ne 7, 3) := by decide +kernel
theorem gd_House_letter_7 : decode prog_1_method_18_code 7 = .ok (.sipush (-1003), 3) := by decide +kernel
theorem gd_House_letter_10 : decode prog_1_method_18_code 10 = .ok (.ireturn, 1) := by decide +kernel
theorem gd_House_letter_11 : decode prog_1_method_18_code 11 = .ok (.iload_n 1, 1) := by decide +kernel
theorem gd_House_letter_12 : decode prog_1_method_18_code 12 = .ok (.ifCond .lt 14, 3) := by decide +kernel
theorem gd_House_letter_15 : decode prog_1_method_18_code 15 = .ok (.iload_n 1, 1) := by decide +kernel
theorem gd_House_letter_16 : decode prog_1_method_18_code 16 = .ok (.aload_n 0, 1) := by decide +kernel
theorem gd_House_letter_17 : decode prog_1_method_18_code 17 = .ok (.getfield 46, 3) := by decide +kernel
theorem gd_House_letter_20 : decode prog_1_method_18_code 20 = .ok (.getfield 133, 3) := by decide +kernel
theorem gd_House_letter_23 : decode prog_1_method_18_code 23 = .ok (.if_icmp .lt 9, 3) := by decide +kernel
theorem gd_House_letter_26 : decode prog_1_method_18_code 26 = .ok (.sipush (-1001), 3) := by decide +kernel
theorem gd_House_letter_29 : decode prog_1_method_18_code 29 = .ok (.goto 12, 3) := by decide +kernel
theorem gd_House_letter_32 : decode prog_1_method_18_code 32 = .ok (.aload_n 0, 1) := by decide +kernel
theorem gd_House_letter_33 : decode prog_1_method_18_code 33 = .ok (.getfield 46, 3) := by decide +kernel
theorem gd_House_letter_36 : decode prog_1_method_18_code 36 = .ok (.getfield 214, 3) := by decide +kernel
theorem gd_House_letter_39 : decode prog_1_method_18_code 39 = .ok (.iload_n 1, 1) := by decide +kernel
theorem gd_House_letter_40 : decode prog_1_method_18_code 40 = .ok (.iaload, 1) := by decide +kernel
theorem gd_House_letter_41 : decode prog_1_method_18_code 41 = .ok (.ireturn, 1) := by decide +kernel
theorem gd_House_makes_0 : decode prog_1_method_23_code 0 = .ok (.aload_n 0, 1) := by decide +kernel
theorem gd_House_makes_1 : decode prog_1_method_23_code 1 = .ok (.getfield 129, 3) := by decide +kernel
theorem gd_House_makes_4 : decode prog_1_method_23_code 4 = .ok (.ifCond .eq 31, 3) := by decide +kernel
theorem gd_House_makes_7 : decode prog_1_method_23_code 7 = .ok (.aload_n 0, 1) := by decide +kernel
theorem gd_House_makes_8 : decode prog_1_method_23_code 8 = .ok (.iload_n 1, 1) := by decide +kernel
theorem gd_House_makes_9 : decode prog_1_method_23_code 9 = .ok (.invokevirtual 160, 3) := by decide +kernel
theorem gd_House_makes_12 : decode prog_1_method_23_code 12 = .ok (.ifCond .eq 19, 3) := by decide +kernel
theorem gd_House_makes_15 : decode prog_1_method_23_code 15 = .ok (.aload_n 0, 1) := by decide +kernel
theorem gd_House_makes_16 : decode prog_1_method_23_code 16 = .ok (.iload_n 2, 1) := by decide +kernel
theorem gd_House_makes_17 : decode prog_1_method_23_code 17 = .ok (.invokevirtual 221, 3) := by decide +kernel
theorem gd_House_makes_20 : decode prog_1_method_23_code 20 = .ok (.ifCond .eq 11, 3) := by decide +kernel
theorem gd_House_makes_23 : decode prog_1_method_23_code 23 = .ok (.aload_n 0, 1) := by decide +kernel
theorem gd_House_makes_24 : decode prog_1_method_23_code 24 = .ok (.iload_n 3, 1) := by decide +kernel
theorem gd_House_makes_25 : decode prog_1_method_23_code 25 = .ok (.invokevirtual 221, 3) := by decide +kernel
theorem gd_House_makes_28 : decode prog_1_method_23_code 28 = .ok (.ifCond .ne 7, 3) := by decide +kernel
theorem gd_House_makes_31 : decode prog_1_method_23_code 31 = .ok (.sipush (-1001), 3) := by decide +kernel
theorem gd_House_makes_34 : decode prog_1_method_23_code 34 = .ok (.ireturn, 1) := by decide +kernel
theorem gd_House_makes_35 : decode prog_1_method_23_code 35 = .ok (.iload_n 2, 1) := by decide +kernel
theorem gd_House_makes_36 : decode prog_1_method_23_code 36 = .ok (.iload_n 3, 1) := by decide +kernel
theorem gd_House_makes_37 : decode prog_1_method_23_code 37 = .ok (.if_icmp .le 7, 3) := by decide +kernel
theorem gd_House_makes_40 : decode prog_1_method_23_code 40 = .ok (.sipush (-1002), 3) := by decide +kernel
theorem gd_House_makes_43 : decode prog_1_method_23_code 43 = .ok (.ireturn, 1) := by decide +kernel
theorem gd_House_makes_44 : decode prog_1_method_23_code 44 = .ok (.aload_n 0, 1) := by decide +kernel
theorem gd_House_makes_45 : decode prog_1_method_23_code 45 = .ok (.getfield 129, 3) := by decide +kernel
theorem gd_House_makes_48 : decode prog_1_method_23_code 48 = .ok (.ifCond .ne 7, 3) := by decide +kernel
theorem gd_House_makes_51 : decode prog_1_method_23_code 51 = .ok (.sipush (-1003), 3) := by decide +kernel
theorem gd_House_makes_54 : decode prog_1_method_23_code 54 = .ok (.ireturn, 1) := by decide +kernel
theorem gd_House_makes_55 : decode prog_1_method_23_code 55 = .ok (.aload_n 0, 1) := by decide +kernel
theorem gd_House_makes_56 : decode prog_1_method_23_code 56 = .ok (.getfield 55, 3) := by decide +kernel
theorem gd_House_makes_59 : decode prog_1_method_23_code 59 = .ok (.invokevirtual 224, 3) := by decide +kernel
theorem gd_House_makes_62 : decode prog_1_method_23_code 62 = .ok (.aload_n 0, 1) := by decide +kernel
theorem gd_House_makes_63 : decode prog_1_method_23_code 63 = .ok (.getfield 55, 3) := by decide +kernel
theorem gd_House_makes_66 : decode prog_1_method_23_code 66 = .ok (.iload_n 1, 1) := by decide +kernel
theorem gd_House_makes_67 : decode prog_1_method_23_code 67 = .ok (.iload_n 2, 1) := by decide +kernel
theorem gd_House_makes_68 : decode prog_1_method_23_code 68 = .ok (.iload_n 3, 1) := by decide +kernel
theorem gd_House_makes_69 : decode prog_1_method_23_code 69 = .ok (.invokevirtual 227, 3) := by decide +kernel
theorem gd_House_makes_72 : decode prog_1_method_23_code 72 = .ok (.ifCond .eq 7, 3) := by decide +kernel
theorem gd_House_makes_75 : decode prog_1_method_23_code 75 = .ok (.iconst 1, 1) := by decide +kernel
theorem gd_House_makes_76 : decode prog_1_method_23_code 76 = .ok (.goto 4, 3) := by decide +kernel
theorem gd_House_makes_79 : decode prog_1_method_23_code 79 = .ok (.iconst 0, 1) := by decide +kernel
theorem gd_House_makes_80 : decode prog_1_method_23_code 80 = .ok (.ireturn, 1) := by decide +kernel
theorem gd_House_isName_0 : decode prog_1_method_34_code 0 = .ok (.iload_n 1, 1) := by decide +kernel
theorem gd_House_isName_1 : decode prog_1_method_34_code 1 = .ok (.ifCond .lt 18, 3) := by decide +kernel
theorem gd_House_isName_4 : decode prog_1_method_34_code 4 = .ok (.iload_n 1, 1) := by decide +kernel
theorem gd_House_isName_5 : decode prog_1_method_34_code 5 = .ok (.aload_n 0, 1) := by decide +kernel
theorem gd_House_isName_6 : decode prog_1_method_34_code 6 = .ok (.getfield 28, 3) := by decide +kernel
theorem gd_House_isName_9 : decode prog_1_method_34_code 9 = .ok (.getfield 149, 3) := by decide +kernel
theorem gd_House_isName_12 : decode prog_1_method_34_code 12 = .ok (.if_icmp .ge 7, 3) := by decide +kernel
theorem gd_House_isName_15 : decode prog_1_method_34_code 15 = .ok (.iconst 1, 1) := by decide +kernel
theorem gd_House_isName_16 : decode prog_1_method_34_code 16 = .ok (.goto 4, 3) := by decide +kernel
theorem gd_House_isName_19 : decode prog_1_method_34_code 19 = .ok (.iconst 0, 1) := by decide +kernel
theorem gd_House_isName_20 : decode prog_1_method_34_code 20 = .ok (.ireturn, 1) := by decide +kernel
theorem gd_House_trees_0 : decode prog_1_method_26_code 0 = .ok (.aload_n 0, 1) := by decide +kernel
theorem gd_House_trees_1 : decode prog_1_method_26_code 1 = .ok (.getfield 129, 3) := by decide +kernel
theorem gd_House_trees_4 : decode prog_1_method_26_code 4 = .ok (.ifCond .eq 31, 3) := by decide +kernel
theorem gd_House_trees_7 : decode prog_1_method_26_code 7 = .ok (.aload_n 0, 1) := by decide +kernel
theorem gd_House_trees_8 : decode prog_1_method_26_code 8 = .ok (.iload_n 1, 1) := by decide +kernel
theorem gd_House_trees_9 : decode prog_1_method_26_code 9 = .ok (.invokevirtual 160, 3) := by decide +kernel
theorem gd_House_trees_12 : decode prog_1_method_26_code 12 = .ok (.ifCond .eq 19, 3) := by decide +kernel
theorem gd_House_trees_15 : decode prog_1_method_26_code 15 = .ok (.aload_n 0, 1) := by decide +kernel
theorem gd_House_trees_16 : decode prog_1_method_26_code 16 = .ok (.iload_n 2, 1) := by decide +kernel
theorem gd_House_trees_17 : decode prog_1_method_26_code 17 = .ok (.invokevirtual 221, 3) := by decide +kernel
theorem gd_House_trees_20 : decode prog_1_method_26_code 20 = .ok (.ifCond .eq 11, 3) := by decide +kernel
theorem gd_House_trees_23 : decode prog_1_method_26_code 23 = .ok (.aload_n 0, 1) := by decide +kernel
theorem gd_House_trees_24 : decode prog_1_method_26_code 24 = .ok (.iload_n 3, 1) := by decide +kernel
theorem gd_House_trees_25 : decode prog_1_method_26_code 25 = .ok (.invokevirtual 221, 3) := by decide +kernel
theorem gd_House_trees_28 : decode prog_1_method_26_code 28 = .ok (.ifCond .ne 7, 3) := by decide +kernel
theorem gd_House_trees_31 : decode prog_1_method_26_code 31 = .ok (.ldc2_w 247, 3) := by decide +kernel
theorem gd_House_trees_34 : decode prog_1_method_26_code 34 = .ok (.lreturn, 1) := by decide +kernel
theorem gd_House_trees_35 : decode prog_1_method_26_code 35 = .ok (.iload_n 2, 1) := by decide +kernel
theorem gd_House_trees_36 : decode prog_1_method_26_code 36 = .ok (.iload_n 3, 1) := by decide +kernel
theorem gd_House_trees_37 : decode prog_1_method_26_code 37 = .ok (.if_icmp .le 7, 3) := by decide +kernel
theorem gd_House_trees_40 : decode prog_1_method_26_code 40 = .ok (.ldc2_w 249, 3) := by decide +kernel
theorem gd_House_trees_43 : decode prog_1_method_26_code 43 = .ok (.lreturn, 1) := by decide +kernel
theorem gd_House_trees_44 : decode prog_1_method_26_code 44 = .ok (.aload_n 0, 1) := by decide +kernel
theorem gd_House_trees_45 : decode prog_1_method_26_code 45 = .ok (.getfield 129, 3) := by decide +kernel
theorem gd_House_trees_48 : decode prog_1_method_26_code 48 = .ok (.ifCond .ne 7, 3) := by decide +kernel
theorem gd_House_trees_51 : decode prog_1_method_26_code 51 = .ok (.ldc2_w 251, 3) := by decide +kernel
theorem gd_House_trees_54 : decode prog_1_method_26_code 54 = .ok (.lreturn, 1) := by decide +kernel
theorem gd_House_trees_55 : decode prog_1_method_26_code 55 = .ok (.aload_n 0, 1) := by decide +kernel
theorem gd_House_trees_56 : decode prog_1_method_26_code 56 = .ok (.getfield 55, 3) := by decide +kernel
theorem gd_House_trees_59 : decode prog_1_method_26_code 59 = .ok (.invokevirtual 224, 3) := by decide +kernel
theorem gd_House_trees_62 : decode prog_1_method_26_code 62 = .ok (.aload_n 0, 1) := by decide +kernel
theorem gd_House_trees_63 : decode prog_1_method_26_code 63 = .ok (.getfield 71, 3) := by decide +kernel
theorem gd_House_trees_66 : decode prog_1_method_26_code 66 = .ok (.iload_n 1, 1) := by decide +kernel
theorem gd_House_trees_67 : decode prog_1_method_26_code 67 = .ok (.iload_n 2, 1) := by decide +kernel
theorem gd_House_trees_68 : decode prog_1_method_26_code 68 = .ok (.iload_n 3, 1) := by decide +kernel
theorem gd_House_trees_69 : decode prog_1_method_26_code 69 = .ok (.invokevirtual 253, 3) := by decide +kernel
theorem gd_House_trees_72 : decode prog_1_method_26_code 72 = .ok (.lstore 4, 2) := by decide +kernel
theorem gd_House_trees_74 : decode prog_1_method_26_code 74 = .ok (.lload 4, 2) := by decide +kernel
theorem gd_House_trees_76 : decode prog_1_method_26_code 76 = .ok (.ldc2_w 257, 3) := by decide +kernel
theorem gd_House_trees_79 : decode prog_1_method_26_code 79 = .ok (.lcmp, 1) := by decide +kernel
theorem gd_House_trees_80 : decode prog_1_method_26_code 80 = .ok (.ifCond .ge 8, 3) := by decide +kernel
theorem gd_House_trees_83 : decode prog_1_method_26_code 83 = .ok (.lload 4, 2) := by decide +kernel
theorem gd_House_trees_85 : decode prog_1_method_26_code 85 = .ok (.goto 6, 3) := by decide +kernel
theorem gd_House_trees_88 : decode prog_1_method_26_code 88 = .ok (.ldc2_w 259, 3) := by decide +kernel
theorem gd_House_trees_91 : decode prog_1_method_26_code 91 = .ok (.lreturn, 1) := by decide +kernel
theorem gd_Forest_treesOf_0 : decode prog_5_method_3_code 0 = .ok (.aload_n 0, 1) := by decide +kernel
theorem gd_Forest_treesOf_1 : decode prog_5_method_3_code 1 = .ok (.getfield 28, 3) := by decide +kernel
theorem gd_Forest_treesOf_4 : decode prog_5_method_3_code 4 = .ok (.iconst 1, 1) := by decide +kernel
theorem gd_Forest_treesOf_5 : decode prog_5_method_3_code 5 = .ok (.iadd, 1) := by decide +kernel
theorem gd_Forest_treesOf_6 : decode prog_5_method_3_code 6 = .ok (.istore 4, 2) := by decide +kernel
theorem gd_Forest_treesOf_8 : decode prog_5_method_3_code 8 = .ok (.iload 4, 2) := by decide +kernel
theorem gd_Forest_treesOf_10 : decode prog_5_method_3_code 10 = .ok (.iload_n 3, 1) := by decide +kernel
theorem gd_Forest_treesOf_11 : decode prog_5_method_3_code 11 = .ok (.if_icmp .gt 38, 3) := by decide +kernel
theorem gd_Forest_treesOf_14 : decode prog_5_method_3_code 14 = .ok (.iload 4, 2) := by decide +kernel
theorem gd_Forest_treesOf_16 : decode prog_5_method_3_code 16 = .ok (.istore 5, 2) := by decide +kernel
theorem gd_Forest_treesOf_18 : decode prog_5_method_3_code 18 = .ok (.iload 5, 2) := by decide +kernel
theorem gd_Forest_treesOf_20 : decode prog_5_method_3_code 20 = .ok (.ifCond .lt 17, 3) := by decide +kernel
theorem gd_Forest_treesOf_23 : decode prog_5_method_3_code 23 = .ok (.aload_n 0, 1) := by decide +kernel
theorem gd_Forest_treesOf_24 : decode prog_5_method_3_code 24 = .ok (.iload 5, 2) := by decide +kernel
theorem gd_Forest_treesOf_26 : decode prog_5_method_3_code 26 = .ok (.iload 4, 2) := by decide +kernel
theorem gd_Forest_treesOf_28 : decode prog_5_method_3_code 28 = .ok (.invokevirtual 54, 3) := by decide +kernel
theorem gd_Forest_treesOf_31 : decode prog_5_method_3_code 31 = .ok (.iinc 5 (-1), 3) := by decide +kernel
theorem gd_Forest_treesOf_34 : decode prog_5_method_3_code 34 = .ok (.goto (-16), 3) := by decide +kernel
theorem gd_Forest_treesOf_37 : decode prog_5_method_3_code 37 = .ok (.aload_n 0, 1) := by decide +kernel
theorem gd_Forest_treesOf_38 : decode prog_5_method_3_code 38 = .ok (.iload 4, 2) := by decide +kernel
theorem gd_Forest_treesOf_40 : decode prog_5_method_3_code 40 = .ok (.putfield 28, 3) := by decide +kernel
theorem gd_Forest_treesOf_43 : decode prog_5_method_3_code 43 = .ok (.iinc 4 1, 3) := by decide +kernel
theorem gd_Forest_treesOf_46 : decode prog_5_method_3_code 46 = .ok (.goto (-38), 3) := by decide +kernel
theorem gd_Forest_treesOf_49 : decode prog_5_method_3_code 49 = .ok (.aload_n 0, 1) := by decide +kernel
theorem gd_Forest_treesOf_50 : decode prog_5_method_3_code 50 = .ok (.getfield 9, 3) := by decide +kernel
theorem gd_Forest_treesOf_53 : decode prog_5_method_3_code 53 = .ok (.iload_n 1, 1) := by decide +kernel
theorem gd_Forest_treesOf_54 : decode prog_5_method_3_code 54 = .ok (.iload_n 2, 1) := by decide +kernel
theorem gd_Forest_treesOf_55 : decode prog_5_method_3_code 55 = .ok (.iload_n 3, 1) := by decide +kernel
theorem gd_Forest_treesOf_56 : decode prog_5_method_3_code 56 = .ok (.invokestatic 58, 3) := by decide +kernel
theorem gd_Forest_treesOf_59 : decode prog_5_method_3_code 59 = .ok (.laload, 1) := by decide +kernel
theorem gd_Forest_treesOf_60 : decode prog_5_method_3_code 60 = .ok (.lreturn, 1) := by decide +kernel
theorem gd_Forest_countOver_0 : decode prog_5_method_4_code 0 = .ok (.aload_n 0, 1) := by decide +kernel
theorem gd_Forest_countOver_1 : decode prog_5_method_4_code 1 = .ok (.dup, 1) := by decide +kernel
theorem gd_Forest_countOver_2 : decode prog_5_method_4_code 2 = .ok (.getfield 62, 3) := by decide +kernel
theorem gd_Forest_countOver_5 : decode prog_5_method_4_code 5 = .ok (.iconst 1, 1) := by decide +kernel
theorem gd_Forest_countOver_6 : decode prog_5_method_4_code 6 = .ok (.iadd, 1) := by decide +kernel
theorem gd_Forest_countOver_7 : decode prog_5_method_4_code 7 = .ok (.putfield 62, 3) := by decide +kernel
theorem gd_Forest_countOver_10 : decode prog_5_method_4_code 10 = .ok (.iload_n 2, 1) := by decide +kernel
theorem gd_Forest_countOver_11 : decode prog_5_method_4_code 11 = .ok (.ifCond .ne 11, 3) := by decide +kernel
theorem gd_Forest_countOver_14 : decode prog_5_method_4_code 14 = .ok (.aload_n 0, 1) := by decide +kernel
theorem gd_Forest_countOver_15 : decode prog_5_method_4_code 15 = .ok (.aload_n 0, 1) := by decide +kernel
theorem gd_Forest_countOver_16 : decode prog_5_method_4_code 16 = .ok (.getfield 62, 3) := by decide +kernel
theorem gd_Forest_countOver_19 : decode prog_5_method_4_code 19 = .ok (.putfield 65, 3) := by decide +kernel
theorem gd_Forest_countOver_22 : decode prog_5_method_4_code 22 = .ok (.iconst 0, 1) := by decide +kernel
theorem gd_Forest_countOver_23 : decode prog_5_method_4_code 23 = .ok (.istore_n 3, 1) := by decide +kernel
theorem gd_Forest_countOver_24 : decode prog_5_method_4_code 24 = .ok (.iload_n 3, 1) := by decide +kernel
theorem gd_Forest_countOver_25 : decode prog_5_method_4_code 25 = .ok (.aload_n 0, 1) := by decide +kernel
theorem gd_Forest_countOver_26 : decode prog_5_method_4_code 26 = .ok (.getfield 32, 3) := by decide +kernel
theorem gd_Forest_countOver_29 : decode prog_5_method_4_code 29 = .ok (.getfield 68, 3) := by decide +kernel
theorem gd_Forest_countOver_32 : decode prog_5_method_4_code 32 = .ok (.if_icmp .ge 46, 3) := by decide +kernel
theorem gd_Forest_countOver_35 : decode prog_5_method_4_code 35 = .ok (.aload_n 0, 1) := by decide +kernel
theorem gd_Forest_countOver_36 : decode prog_5_method_4_code 36 = .ok (.getfield 9, 3) := by decide +kernel
theorem gd_Forest_countOver_39 : decode prog_5_method_4_code 39 = .ok (.iload_n 3, 1) := by decide +kernel
theorem gd_Forest_countOver_40 : decode prog_5_method_4_code 40 = .ok (.iload_n 1, 1) := by decide +kernel
theorem gd_Forest_countOver_41 : decode prog_5_method_4_code 41 = .ok (.iload_n 2, 1) := by decide +kernel
theorem gd_Forest_countOver_42 : decode prog_5_method_4_code 42 = .ok (.invokestatic 58, 3) := by decide +kernel
theorem gd_Forest_countOver_45 : decode prog_5_method_4_code 45 = .ok (.iload_n 1, 1) := by decide +kernel
theorem gd_Forest_countOver_46 : decode prog_5_method_4_code 46 = .ok (.iload_n 2, 1) := by decide +kernel
theorem gd_Forest_countOver_47 : decode prog_5_method_4_code 47 = .ok (.if_icmp .ne 21, 3) := by decide +kernel
theorem gd_Forest_countOver_50 : decode prog_5_method_4_code 50 = .ok (.iload_n 2, 1) := by decide +kernel
theorem gd_Forest_countOver_51 : decode prog_5_method_4_code 51 = .ok (.ifCond .le 17, 3) := by decide +kernel
theorem gd_Forest_countOver_54 : decode prog_5_method_4_code 54 = .ok (.aload_n 0, 1) := by decide +kernel
theorem gd_Forest_countOver_55 : decode prog_5_method_4_code 55 = .ok (.getfield 9, 3) := by decide +kernel
theorem gd_Forest_countOver_58 : decode prog_5_method_4_code 58 = .ok (.iload_n 3, 1) := by decide +kernel
theorem gd_Forest_countOver_59 : decode prog_5_method_4_code 59 = .ok (.iconst 0, 1) := by decide +kernel
theorem gd_Forest_countOver_60 : decode prog_5_method_4_code 60 = .ok (.iconst 0, 1) := by decide +kernel
theorem gd_Forest_countOver_61 : decode prog_5_method_4_code 61 = .ok (.invokestatic 58, 3) := by decide +kernel
theorem gd_Forest_countOver_64 : decode prog_5_method_4_code 64 = .ok (.laload, 1) := by decide +kernel
theorem gd_Forest_countOver_65 : decode prog_5_method_4_code 65 = .ok (.goto 6, 3) := by decide +kernel
theorem gd_Forest_countOver_68 : decode prog_5_method_4_code 68 = .ok (.ldc2_w 73, 3) := by decide +kernel
theorem gd_Forest_countOver_71 : decode prog_5_method_4_code 71 = .ok (.lastore, 1) := by decide +kernel
theorem gd_Forest_countOver_72 : decode prog_5_method_4_code 72 = .ok (.iinc 3 1, 3) := by decide +kernel
theorem gd_Forest_countOver_75 : decode prog_5_method_4_code 75 = .ok (.goto (-51), 3) := by decide +kernel
theorem gd_Forest_countOver_78 : decode prog_5_method_4_code 78 = .ok (.iconst 0, 1) := by decide +kernel
theorem gd_Forest_countOver_79 : decode prog_5_method_4_code 79 = .ok (.istore_n 3, 1) := by decide +kernel
theorem gd_Forest_countOver_80 : decode prog_5_method_4_code 80 = .ok (.iload_n 3, 1) := by decide +kernel
theorem gd_Forest_countOver_81 : decode prog_5_method_4_code 81 = .ok (.aload_n 0, 1) := by decide +kernel
theorem gd_Forest_countOver_82 : decode prog_5_method_4_code 82 = .ok (.getfield 32, 3) := by decide +kernel
theorem gd_Forest_countOver_85 : decode prog_5_method_4_code 85 = .ok (.getfield 68, 3) := by decide +kernel
theorem gd_Forest_countOver_88 : decode prog_5_method_4_code 88 = .ok (.if_icmp .ge 29, 3) := by decide +kernel
theorem gd_Forest_countOver_91 : decode prog_5_method_4_code 91 = .ok (.aload_n 0, 1) := by decide +kernel
theorem gd_Forest_countOver_92 : decode prog_5_method_4_code 92 = .ok (.getfield 9, 3) := by decide +kernel
theorem gd_Forest_countOver_95 : decode prog_5_method_4_code 95 = .ok (.iload_n 3, 1) := by decide +kernel
theorem gd_Forest_countOver_96 : decode prog_5_method_4_code 96 = .ok (.iload_n 1, 1) := by decide +kernel
theorem gd_Forest_countOver_97 : decode prog_5_method_4_code 97 = .ok (.iload_n 2, 1) := by decide +kernel
theorem gd_Forest_countOver_98 : decode prog_5_method_4_code 98 = .ok (.invokestatic 58, 3) := by decide +kernel
theorem gd_Forest_countOver_101 : decode prog_5_method_4_code 101 = .ok (.aload_n 0, 1) := by decide +kernel
theorem gd_Forest_countOver_102 : decode prog_5_method_4_code 102 = .ok (.iload_n 3, 1) := by decide +kernel
theorem gd_Forest_countOver_103 : decode prog_5_method_4_code 103 = .ok (.iload_n 1, 1) := by decide +kernel
theorem gd_Forest_countOver_104 : decode prog_5_method_4_code 104 = .ok (.iload_n 2, 1) := by decide +kernel
theorem gd_Forest_countOver_105 : decode prog_5_method_4_code 105 = .ok (.iconst 0, 1) := by decide +kernel
theorem gd_Forest_countOver_106 : decode prog_5_method_4_code 106 = .ok (.iconst 0, 1) := by decide +kernel
theorem gd_Forest_countOver_107 : decode prog_5_method_4_code 107 = .ok (.invokevirtual 75, 3) := by decide +kernel
theorem gd_Forest_countOver_110 : decode prog_5_method_4_code 110 = .ok (.lastore, 1) := by decide +kernel
theorem gd_Forest_countOver_111 : decode prog_5_method_4_code 111 = .ok (.iinc 3 1, 3) := by decide +kernel
theorem gd_Forest_countOver_114 : decode prog_5_method_4_code 114 = .ok (.goto (-34), 3) := by decide +kernel
theorem gd_Forest_countOver_117 : decode prog_5_method_4_code 117 = .ok (.return_, 1) := by decide +kernel
theorem gd_Forest_plainAt_0 : decode prog_5_method_6_code 0 = .ok (.iload_n 0, 1) := by decide +kernel
theorem gd_Forest_plainAt_1 : decode prog_5_method_6_code 1 = .ok (.bipush 9, 2) := by decide +kernel
theorem gd_Forest_plainAt_3 : decode prog_5_method_6_code 3 = .ok (.imul, 1) := by decide +kernel
theorem gd_Forest_plainAt_4 : decode prog_5_method_6_code 4 = .ok (.iload_n 1, 1) := by decide +kernel
theorem gd_Forest_plainAt_5 : decode prog_5_method_6_code 5 = .ok (.iadd, 1) := by decide +kernel
theorem gd_Forest_plainAt_6 : decode prog_5_method_6_code 6 = .ok (.bipush 9, 2) := by decide +kernel
theorem gd_Forest_plainAt_8 : decode prog_5_method_6_code 8 = .ok (.imul, 1) := by decide +kernel
theorem gd_Forest_plainAt_9 : decode prog_5_method_6_code 9 = .ok (.iload_n 2, 1) := by decide +kernel
theorem gd_Forest_plainAt_10 : decode prog_5_method_6_code 10 = .ok (.iadd, 1) := by decide +kernel
theorem gd_Forest_plainAt_11 : decode prog_5_method_6_code 11 = .ok (.ireturn, 1) := by decide +kernel
theorem gd_Forest_countOf_0 : decode prog_5_method_7_code 0 = .ok (.iload 4, 2) := by decide +kernel
theorem gd_Forest_countOf_2 : decode prog_5_method_7_code 2 = .ok (.iload_n 1, 1) := by decide +kernel
theorem gd_Forest_countOf_3 : decode prog_5_method_7_code 3 = .ok (.ishr, 1) := by decide +kernel
theorem gd_Forest_countOf_4 : decode prog_5_method_7_code 4 = .ok (.iconst 1, 1) := by decide +kernel
theorem gd_Forest_countOf_5 : decode prog_5_method_7_code 5 = .ok (.iand, 1) := by decide +kernel
theorem gd_Forest_countOf_6 : decode prog_5_method_7_code 6 = .ok (.ifCond .ne 23, 3) := by decide +kernel
theorem gd_Forest_countOf_9 : decode prog_5_method_7_code 9 = .ok (.iload 5, 2) := by decide +kernel
theorem gd_Forest_countOf_11 : decode prog_5_method_7_code 11 = .ok (.bipush 8, 2) := by decide +kernel
theorem gd_Forest_countOf_13 : decode prog_5_method_7_code 13 = .ok (.if_icmp .ge 16, 3) := by decide +kernel
theorem gd_Forest_countOf_16 : decode prog_5_method_7_code 16 = .ok (.aload_n 0, 1) := by decide +kernel
theorem gd_Forest_countOf_17 : decode prog_5_method_7_code 17 = .ok (.getfield 44, 3) := by decide +kernel
theorem gd_Forest_countOf_20 : decode prog_5_method_7_code 20 = .ok (.iload_n 1, 1) := by decide +kernel
theorem gd_Forest_countOf_21 : decode prog_5_method_7_code 21 = .ok (.iload_n 2, 1) := by decide +kernel
theorem gd_Forest_countOf_22 : decode prog_5_method_7_code 22 = .ok (.iload_n 3, 1) := by decide +kernel
theorem gd_Forest_countOf_23 : decode prog_5_method_7_code 23 = .ok (.invokevirtual 79, 3) := by decide +kernel
theorem gd_Forest_countOf_26 : decode prog_5_method_7_code 26 = .ok (.ifCond .ne 5, 3) := by decide +kernel
theorem gd_Forest_countOf_29 : decode prog_5_method_7_code 29 = .ok (.lconst 0, 1) := by decide +kernel
theorem gd_Forest_countOf_30 : decode prog_5_method_7_code 30 = .ok (.lreturn, 1) := by decide +kernel
theorem gd_Forest_countOf_31 : decode prog_5_method_7_code 31 = .ok (.iload 4, 2) := by decide +kernel
theorem gd_Forest_countOf_33 : decode prog_5_method_7_code 33 = .ok (.aload_n 0, 1) := by decide +kernel
theorem gd_Forest_countOf_34 : decode prog_5_method_7_code 34 = .ok (.getfield 36, 3) := by decide +kernel
theorem gd_Forest_countOf_37 : decode prog_5_method_7_code 37 = .ok (.getfield 85, 3) := by decide +kernel
theorem gd_Forest_countOf_40 : decode prog_5_method_7_code 40 = .ok (.iload_n 1, 1) := by decide +kernel
theorem gd_Forest_countOf_41 : decode prog_5_method_7_code 41 = .ok (.iaload, 1) := by decide +kernel
theorem gd_Forest_countOf_42 : decode prog_5_method_7_code 42 = .ok (.iand, 1) := by decide +kernel
theorem gd_Forest_countOf_43 : decode prog_5_method_7_code 43 = .ok (.istore 6, 2) := by decide +kernel
theorem gd_Forest_countOf_45 : decode prog_5_method_7_code 45 = .ok (.aload_n 0, 1) := by decide +kernel
theorem gd_Forest_countOf_46 : decode prog_5_method_7_code 46 = .ok (.iload_n 1, 1) := by decide +kernel
theorem gd_Forest_countOf_47 : decode prog_5_method_7_code 47 = .ok (.iload_n 2, 1) := by decide +kernel
theorem gd_Forest_countOf_48 : decode prog_5_method_7_code 48 = .ok (.iload_n 3, 1) := by decide +kernel
theorem gd_Forest_countOf_49 : decode prog_5_method_7_code 49 = .ok (.iload 6, 2) := by decide +kernel
theorem gd_Forest_countOf_51 : decode prog_5_method_7_code 51 = .ok (.invokevirtual 90, 3) := by decide +kernel
theorem gd_Forest_countOf_54 : decode prog_5_method_7_code 54 = .ok (.lstore 7, 2) := by decide +kernel
theorem gd_Forest_countOf_56 : decode prog_5_method_7_code 56 = .ok (.lload 7, 2) := by decide +kernel
theorem gd_Forest_countOf_58 : decode prog_5_method_7_code 58 = .ok (.lconst 0, 1) := by decide +kernel
theorem gd_Forest_countOf_59 : decode prog_5_method_7_code 59 = .ok (.lcmp, 1) := by decide +kernel
theorem gd_Forest_countOf_60 : decode prog_5_method_7_code 60 = .ok (.ifCond .lt 6, 3) := by decide +kernel
theorem gd_Forest_countOf_63 : decode prog_5_method_7_code 63 = .ok (.lload 7, 2) := by decide +kernel
theorem gd_Forest_countOf_65 : decode prog_5_method_7_code 65 = .ok (.lreturn, 1) := by decide +kernel
theorem gd_Forest_countOf_66 : decode prog_5_method_7_code 66 = .ok (.lconst 0, 1) := by decide +kernel
theorem gd_Forest_countOf_67 : decode prog_5_method_7_code 67 = .ok (.lstore 7, 2) := by decide +kernel
theorem gd_Forest_countOf_69 : decode prog_5_method_7_code 69 = .ok (.aload_n 0, 1) := by decide +kernel
theorem gd_Forest_countOf_70 : decode prog_5_method_7_code 70 = .ok (.getfield 32, 3) := by decide +kernel
theorem gd_Forest_countOf_73 : decode prog_5_method_7_code 73 = .ok (.getfield 94, 3) := by decide +kernel
theorem gd_Forest_countOf_76 : decode prog_5_method_7_code 76 = .ok (.iload_n 1, 1) := by decide +kernel
theorem gd_Forest_countOf_77 : decode prog_5_method_7_code 77 = .ok (.iaload, 1) := by decide +kernel
theorem gd_Forest_countOf_78 : decode prog_5_method_7_code 78 = .ok (.istore 9, 2) := by decide +kernel
theorem gd_Forest_countOf_80 : decode prog_5_method_7_code 80 = .ok (.iload 9, 2) := by decide +kernel
theorem gd_Forest_countOf_82 : decode prog_5_method_7_code 82 = .ok (.aload_n 0, 1) := by decide +kernel
theorem gd_Forest_countOf_83 : decode prog_5_method_7_code 83 = .ok (.getfield 32, 3) := by decide +kernel
theorem gd_Forest_countOf_86 : decode prog_5_method_7_code 86 = .ok (.iload_n 1, 1) := by decide +kernel
theorem gd_Forest_countOf_87 : decode prog_5_method_7_code 87 = .ok (.invokevirtual 97, 3) := by decide +kernel
theorem gd_Forest_countOf_90 : decode prog_5_method_7_code 90 = .ok (.if_icmp .ge 32, 3) := by decide +kernel
theorem gd_Forest_countOf_93 : decode prog_5_method_7_code 93 = .ok (.lload 7, 2) := by decide +kernel
theorem gd_Forest_countOf_95 : decode prog_5_method_7_code 95 = .ok (.aload_n 0, 1) := by decide +kernel
theorem gd_Forest_countOf_96 : decode prog_5_method_7_code 96 = .ok (.iload 9, 2) := by decide +kernel
theorem gd_Forest_countOf_98 : decode prog_5_method_7_code 98 = .ok (.iload_n 2, 1) := by decide +kernel
theorem gd_Forest_countOf_99 : decode prog_5_method_7_code 99 = .ok (.iload_n 3, 1) := by decide +kernel
theorem gd_Forest_countOf_100 : decode prog_5_method_7_code 100 = .ok (.iload 6, 2) := by decide +kernel
theorem gd_Forest_countOf_102 : decode prog_5_method_7_code 102 = .ok (.iconst 1, 1) := by decide +kernel
theorem gd_Forest_countOf_103 : decode prog_5_method_7_code 103 = .ok (.iload_n 1, 1) := by decide +kernel
theorem gd_Forest_countOf_104 : decode prog_5_method_7_code 104 = .ok (.ishl, 1) := by decide +kernel
theorem gd_Forest_countOf_105 : decode prog_5_method_7_code 105 = .ok (.ior, 1) := by decide +kernel
theorem gd_Forest_countOf_106 : decode prog_5_method_7_code 106 = .ok (.iload 5, 2) := by decide +kernel
theorem gd_Forest_countOf_108 : decode prog_5_method_7_code 108 = .ok (.invokevirtual 101, 3) := by decide +kernel
theorem gd_Forest_countOf_111 : decode prog_5_method_7_code 111 = .ok (.invokestatic 104, 3) := by decide +kernel
theorem gd_Forest_countOf_114 : decode prog_5_method_7_code 114 = .ok (.lstore 7, 2) := by decide +kernel
theorem gd_Forest_countOf_116 : decode prog_5_method_7_code 116 = .ok (.iinc 9 1, 3) := by decide +kernel
theorem gd_Forest_countOf_119 : decode prog_5_method_7_code 119 = .ok (.goto (-39), 3) := by decide +kernel
theorem gd_Forest_countOf_122 : decode prog_5_method_7_code 122 = .ok (.aload_n 0, 1) := by decide +kernel
theorem gd_Forest_countOf_123 : decode prog_5_method_7_code 123 = .ok (.iload_n 1, 1) := by decide +kernel
theorem gd_Forest_countOf_124 : decode prog_5_method_7_code 124 = .ok (.iload_n 2, 1) := by decide +kernel
theorem gd_Forest_countOf_125 : decode prog_5_method_7_code 125 = .ok (.iload_n 3, 1) := by decide +kernel
theorem gd_Forest_countOf_126 : decode prog_5_method_7_code 126 = .ok (.iload 6, 2) := by decide +kernel
theorem gd_Forest_countOf_128 : decode prog_5_method_7_code 128 = .ok (.lload 7, 2) := by decide +kernel
theorem gd_Forest_countOf_130 : decode prog_5_method_7_code 130 = .ok (.invokevirtual 108, 3) := by decide +kernel
theorem gd_Forest_countOf_133 : decode prog_5_method_7_code 133 = .ok (.lload 7, 2) := by decide +kernel
theorem gd_Forest_countOf_135 : decode prog_5_method_7_code 135 = .ok (.lreturn, 1) := by decide +kernel
theorem gd_Forest_recall_0 : decode prog_5_method_8_code 0 = .ok (.iload 4, 2) := by decide +kernel
theorem gd_Forest_recall_2 : decode prog_5_method_8_code 2 = .ok (.ifCond .ne 15, 3) := by decide +kernel
theorem gd_Forest_recall_5 : decode prog_5_method_8_code 5 = .ok (.aload_n 0, 1) := by decide +kernel
theorem gd_Forest_recall_6 : decode prog_5_method_8_code 6 = .ok (.getfield 9, 3) := by decide +kernel
theorem gd_Forest_recall_9 : decode prog_5_method_8_code 9 = .ok (.iload_n 1, 1) := by decide +kernel
theorem gd_Forest_recall_10 : decode prog_5_method_8_code 10 = .ok (.iload_n 2, 1) := by decide +kernel
theorem gd_Forest_recall_11 : decode prog_5_method_8_code 11 = .ok (.iload_n 3, 1) := by decide +kernel
theorem gd_Forest_recall_12 : decode prog_5_method_8_code 12 = .ok (.invokestatic 58, 3) := by decide +kernel
theorem gd_Forest_recall_15 : decode prog_5_method_8_code 15 = .ok (.laload, 1) := by decide +kernel
theorem gd_Forest_recall_16 : decode prog_5_method_8_code 16 = .ok (.lreturn, 1) := by decide +kernel
theorem gd_Forest_recall_17 : decode prog_5_method_8_code 17 = .ok (.iload_n 1, 1) := by decide +kernel
theorem gd_Forest_recall_18 : decode prog_5_method_8_code 18 = .ok (.iload_n 2, 1) := by decide +kernel
theorem gd_Forest_recall_19 : decode prog_5_method_8_code 19 = .ok (.iload_n 3, 1) := by decide +kernel
theorem gd_Forest_recall_20 : decode prog_5_method_8_code 20 = .ok (.iload 4, 2) := by decide +kernel
theorem gd_Forest_recall_22 : decode prog_5_method_8_code 22 = .ok (.invokestatic 112, 3) := by decide +kernel
theorem gd_Forest_recall_25 : decode prog_5_method_8_code 25 = .ok (.istore 5, 2) := by decide +kernel
theorem gd_Forest_recall_27 : decode prog_5_method_8_code 27 = .ok (.iload 5, 2) := by decide +kernel
theorem gd_Forest_recall_29 : decode prog_5_method_8_code 29 = .ok (.aload_n 0, 1) := by decide +kernel
theorem gd_Forest_recall_30 : decode prog_5_method_8_code 30 = .ok (.getfield 25, 3) := by decide +kernel
theorem gd_Forest_recall_33 : decode prog_5_method_8_code 33 = .ok (.arraylength, 1) := by decide +kernel
theorem gd_Forest_recall_34 : decode prog_5_method_8_code 34 = .ok (.if_icmp .ge 39, 3) := by decide +kernel
theorem gd_Forest_recall_37 : decode prog_5_method_8_code 37 = .ok (.aload_n 0, 1) := by decide +kernel
theorem gd_Forest_recall_38 : decode prog_5_method_8_code 38 = .ok (.getfield 25, 3) := by decide +kernel
theorem gd_Forest_recall_41 : decode prog_5_method_8_code 41 = .ok (.iload 5, 2) := by decide +kernel
theorem gd_Forest_recall_43 : decode prog_5_method_8_code 43 = .ok (.iaload, 1) := by decide +kernel
theorem gd_Forest_recall_44 : decode prog_5_method_8_code 44 = .ok (.iload_n 2, 1) := by decide +kernel
theorem gd_Forest_recall_45 : decode prog_5_method_8_code 45 = .ok (.iload_n 3, 1) := by decide +kernel
theorem gd_Forest_recall_46 : decode prog_5_method_8_code 46 = .ok (.if_icmp .ne 10, 3) := by decide +kernel
theorem gd_Forest_recall_49 : decode prog_5_method_8_code 49 = .ok (.aload_n 0, 1) := by decide +kernel
theorem gd_Forest_recall_50 : decode prog_5_method_8_code 50 = .ok (.getfield 65, 3) := by decide +kernel
theorem gd_Forest_recall_53 : decode prog_5_method_8_code 53 = .ok (.goto 7, 3) := by decide +kernel
theorem gd_Forest_recall_56 : decode prog_5_method_8_code 56 = .ok (.aload_n 0, 1) := by decide +kernel
theorem gd_Forest_recall_57 : decode prog_5_method_8_code 57 = .ok (.getfield 62, 3) := by decide +kernel
theorem gd_Forest_recall_60 : decode prog_5_method_8_code 60 = .ok (.if_icmp .ne 13, 3) := by decide +kernel
theorem gd_Forest_recall_63 : decode prog_5_method_8_code 63 = .ok (.aload_n 0, 1) := by decide +kernel
theorem gd_Forest_recall_64 : decode prog_5_method_8_code 64 = .ok (.getfield 22, 3) := by decide +kernel
theorem gd_Forest_recall_67 : decode prog_5_method_8_code 67 = .ok (.iload 5, 2) := by decide +kernel
theorem gd_Forest_recall_69 : decode prog_5_method_8_code 69 = .ok (.laload, 1) := by decide +kernel
theorem gd_Forest_recall_70 : decode prog_5_method_8_code 70 = .ok (.goto 6, 3) := by decide +kernel
theorem gd_Forest_recall_73 : decode prog_5_method_8_code 73 = .ok (.ldc2_w 73, 3) := by decide +kernel
theorem gd_Forest_recall_76 : decode prog_5_method_8_code 76 = .ok (.lreturn, 1) := by decide +kernel
theorem gd_Forest_underAt_0 : decode prog_5_method_10_code 0 = .ok (.iload_n 1, 1) := by decide +kernel
theorem gd_Forest_underAt_1 : decode prog_5_method_10_code 1 = .ok (.iload_n 2, 1) := by decide +kernel
theorem gd_Forest_underAt_2 : decode prog_5_method_10_code 2 = .ok (.if_icmp .ne 7, 3) := by decide +kernel
theorem gd_Forest_underAt_5 : decode prog_5_method_10_code 5 = .ok (.iconst 0, 1) := by decide +kernel
theorem gd_Forest_underAt_6 : decode prog_5_method_10_code 6 = .ok (.goto 5, 3) := by decide +kernel
theorem gd_Forest_underAt_9 : decode prog_5_method_10_code 9 = .ok (.bipush 8, 2) := by decide +kernel
theorem gd_Forest_underAt_11 : decode prog_5_method_10_code 11 = .ok (.iload_n 0, 1) := by decide +kernel
theorem gd_Forest_underAt_12 : decode prog_5_method_10_code 12 = .ok (.iadd, 1) := by decide +kernel
theorem gd_Forest_underAt_13 : decode prog_5_method_10_code 13 = .ok (.sipush 256, 3) := by decide +kernel
theorem gd_Forest_underAt_16 : decode prog_5_method_10_code 16 = .ok (.imul, 1) := by decide +kernel
theorem gd_Forest_underAt_17 : decode prog_5_method_10_code 17 = .ok (.iload_n 3, 1) := by decide +kernel
theorem gd_Forest_underAt_18 : decode prog_5_method_10_code 18 = .ok (.iadd, 1) := by decide +kernel
theorem gd_Forest_underAt_19 : decode prog_5_method_10_code 19 = .ok (.ireturn, 1) := by decide +kernel
theorem gd_Forest_countByRule_0 : decode prog_5_method_11_code 0 = .ok (.iload 5, 2) := by decide +kernel
theorem gd_Forest_countByRule_2 : decode prog_5_method_11_code 2 = .ok (.bipush 45, 2) := by decide +kernel
theorem gd_Forest_countByRule_4 : decode prog_5_method_11_code 4 = .ok (.imul, 1) := by decide +kernel
theorem gd_Forest_countByRule_5 : decode prog_5_method_11_code 5 = .ok (.istore 6, 2) := by decide +kernel
theorem gd_Forest_countByRule_7 : decode prog_5_method_11_code 7 = .ok (.aload_n 0, 1) := by decide +kernel
theorem gd_Forest_countByRule_8 : decode prog_5_method_11_code 8 = .ok (.getfield 32, 3) := by decide +kernel
theorem gd_Forest_countByRule_11 : decode prog_5_method_11_code 11 = .ok (.getfield 116, 3) := by decide +kernel
theorem gd_Forest_countByRule_14 : decode prog_5_method_11_code 14 = .ok (.iload_n 1, 1) := by decide +kernel
theorem gd_Forest_countByRule_15 : decode prog_5_method_11_code 15 = .ok (.iaload, 1) := by decide +kernel
theorem gd_Forest_countByRule_16 : decode prog_5_method_11_code 16 = .ok (.istore 7, 2) := by decide +kernel
theorem gd_Forest_countByRule_18 : decode prog_5_method_11_code 18 = .ok (.iconst 1, 1) := by decide +kernel
theorem gd_Forest_countByRule_19 : decode prog_5_method_11_code 19 = .ok (.iload_n 2, 1) := by decide +kernel
theorem gd_Forest_countByRule_20 : decode prog_5_method_11_code 20 = .ok (.ishl, 1) := by decide +kernel
theorem gd_Forest_countByRule_21 : decode prog_5_method_11_code 21 = .ok (.istore 8, 2) := by decide +kernel
theorem gd_Forest_countByRule_23 : decode prog_5_method_11_code 23 = .ok (.iconst 0, 1) := by decide +kernel
theorem gd_Forest_countByRule_24 : decode prog_5_method_11_code 24 = .ok (.istore 9, 2) := by decide +kernel
theorem gd_Forest_countByRule_26 : decode prog_5_method_11_code 26 = .ok (.iload 9, 2) := by decide +kernel
theorem gd_Forest_countByRule_28 : decode prog_5_method_11_code 28 = .ok (.iload 7, 2) := by decide +kernel
theorem gd_Forest_countByRule_30 : decode prog_5_method_11_code 30 = .ok (.if_icmp .ge 44, 3) := by decide +kernel
theorem gd_Forest_countByRule_33 : decode prog_5_method_11_code 33 = .ok (.aload_n 0, 1) := by decide +kernel
theorem gd_Forest_countByRule_34 : decode prog_5_method_11_code 34 = .ok (.getfield 18, 3) := by decide +kernel
theorem gd_Forest_countByRule_37 : decode prog_5_method_11_code 37 = .ok (.iload 5, 2) := by decide +kernel
theorem gd_Forest_countByRule_39 : decode prog_5_method_11_code 39 = .ok (.iconst 4, 1) := by decide +kernel
theorem gd_Forest_countByRule_40 : decode prog_5_method_11_code 40 = .ok (.imul, 1) := by decide +kernel
theorem gd_Forest_countByRule_41 : decode prog_5_method_11_code 41 = .ok (.iload 9, 2) := by decide +kernel
theorem gd_Forest_countByRule_43 : decode prog_5_method_11_code 43 = .ok (.iadd, 1) := by decide +kernel
theorem gd_Forest_countByRule_44 : decode prog_5_method_11_code 44 = .ok (.iload 8, 2) := by decide +kernel
theorem gd_Forest_countByRule_46 : decode prog_5_method_11_code 46 = .ok (.iastore, 1) := by decide +kernel
theorem gd_Forest_countByRule_47 : decode prog_5_method_11_code 47 = .ok (.aload_n 0, 1) := by decide +kernel
theorem gd_Forest_countByRule_48 : decode prog_5_method_11_code 48 = .ok (.getfield 44, 3) := by decide +kernel
theorem gd_Forest_countByRule_51 : decode prog_5_method_11_code 51 = .ok (.aload_n 0, 1) := by decide +kernel
theorem gd_Forest_countByRule_52 : decode prog_5_method_11_code 52 = .ok (.getfield 32, 3) := by decide +kernel
theorem gd_Forest_countByRule_55 : decode prog_5_method_11_code 55 = .ok (.iload_n 1, 1) := by decide +kernel
theorem gd_Forest_countByRule_56 : decode prog_5_method_11_code 56 = .ok (.iload 9, 2) := by decide +kernel
theorem gd_Forest_countByRule_58 : decode prog_5_method_11_code 58 = .ok (.invokevirtual 119, 3) := by decide +kernel
theorem gd_Forest_countByRule_61 : decode prog_5_method_11_code 61 = .ok (.iload 8, 2) := by decide +kernel
theorem gd_Forest_countByRule_63 : decode prog_5_method_11_code 63 = .ok (.invokevirtual 122, 3) := by decide +kernel
theorem gd_Forest_countByRule_66 : decode prog_5_method_11_code 66 = .ok (.istore 8, 2) := by decide +kernel
theorem gd_Forest_countByRule_68 : decode prog_5_method_11_code 68 = .ok (.iinc 9 1, 3) := by decide +kernel
theorem gd_Forest_countByRule_71 : decode prog_5_method_11_code 71 = .ok (.goto (-45), 3) := by decide +kernel
theorem gd_Forest_countByRule_74 : decode prog_5_method_11_code 74 = .ok (.iload_n 2, 1) := by decide +kernel
theorem gd_Forest_countByRule_75 : decode prog_5_method_11_code 75 = .ok (.istore 9, 2) := by decide +kernel
theorem gd_Forest_countByRule_77 : decode prog_5_method_11_code 77 = .ok (.iload 9, 2) := by decide +kernel
theorem gd_Forest_countByRule_79 : decode prog_5_method_11_code 79 = .ok (.iload_n 3, 1) := by decide +kernel
theorem gd_Forest_countByRule_80 : decode prog_5_method_11_code 80 = .ok (.if_icmp .gt 36, 3) := by decide +kernel
theorem gd_Forest_countByRule_83 : decode prog_5_method_11_code 83 = .ok (.aload_n 0, 1) := by decide +kernel
theorem gd_Forest_countByRule_84 : decode prog_5_method_11_code 84 = .ok (.getfield 15, 3) := by decide +kernel
theorem gd_Forest_countByRule_87 : decode prog_5_method_11_code 87 = .ok (.iload 6, 2) := by decide +kernel
theorem gd_Forest_countByRule_89 : decode prog_5_method_11_code 89 = .ok (.iload 7, 2) := by decide +kernel
theorem gd_Forest_countByRule_91 : decode prog_5_method_11_code 91 = .ok (.bipush 9, 2) := by decide +kernel
theorem gd_Forest_countByRule_93 : decode prog_5_method_11_code 93 = .ok (.imul, 1) := by decide +kernel
theorem gd_Forest_countByRule_94 : decode prog_5_method_11_code 94 = .ok (.iadd, 1) := by decide +kernel
theorem gd_Forest_countByRule_95 : decode prog_5_method_11_code 95 = .ok (.iload 9, 2) := by decide +kernel
theorem gd_Forest_countByRule_97 : decode prog_5_method_11_code 97 = .ok (.iadd, 1) := by decide +kernel
theorem gd_Forest_countByRule_98 : decode prog_5_method_11_code 98 = .ok (.iload 9, 2) := by decide +kernel
theorem gd_Forest_countByRule_100 : decode prog_5_method_11_code 100 = .ok (.iload_n 3, 1) := by decide +kernel
theorem gd_Forest_countByRule_101 : decode prog_5_method_11_code 101 = .ok (.if_icmp .ne 7, 3) := by decide +kernel
theorem gd_Forest_countByRule_104 : decode prog_5_method_11_code 104 = .ok (.lconst 1, 1) := by decide +kernel
theorem gd_Forest_countByRule_105 : decode prog_5_method_11_code 105 = .ok (.goto 4, 3) := by decide +kernel
theorem gd_Forest_countByRule_108 : decode prog_5_method_11_code 108 = .ok (.lconst 0, 1) := by decide +kernel
theorem gd_Forest_countByRule_109 : decode prog_5_method_11_code 109 = .ok (.lastore, 1) := by decide +kernel
theorem gd_Forest_countByRule_110 : decode prog_5_method_11_code 110 = .ok (.iinc 9 1, 3) := by decide +kernel
theorem gd_Forest_countByRule_113 : decode prog_5_method_11_code 113 = .ok (.goto (-36), 3) := by decide +kernel
theorem gd_Forest_countByRule_116 : decode prog_5_method_11_code 116 = .ok (.iload 7, 2) := by decide +kernel
theorem gd_Forest_countByRule_118 : decode prog_5_method_11_code 118 = .ok (.iconst 1, 1) := by decide +kernel
theorem gd_Forest_countByRule_119 : decode prog_5_method_11_code 119 = .ok (.isub, 1) := by decide +kernel
theorem gd_Forest_countByRule_120 : decode prog_5_method_11_code 120 = .ok (.istore 9, 2) := by decide +kernel
theorem gd_Forest_countByRule_122 : decode prog_5_method_11_code 122 = .ok (.iload 9, 2) := by decide +kernel
theorem gd_Forest_countByRule_124 : decode prog_5_method_11_code 124 = .ok (.ifCond .lt 160, 3) := by decide +kernel
theorem gd_Forest_countByRule_127 : decode prog_5_method_11_code 127 = .ok (.iload_n 2, 1) := by decide +kernel
theorem gd_Forest_countByRule_128 : decode prog_5_method_11_code 128 = .ok (.istore 10, 2) := by decide +kernel
theorem gd_Forest_countByRule_130 : decode prog_5_method_11_code 130 = .ok (.iload 10, 2) := by decide +kernel
theorem gd_Forest_countByRule_132 : decode prog_5_method_11_code 132 = .ok (.iload_n 3, 1) := by decide +kernel
theorem gd_Forest_countByRule_133 : decode prog_5_method_11_code 133 = .ok (.if_icmp .gt 145, 3) := by decide +kernel
theorem gd_Forest_countByRule_136 : decode prog_5_method_11_code 136 = .ok (.lconst 0, 1) := by decide +kernel
theorem gd_Forest_countByRule_137 : decode prog_5_method_11_code 137 = .ok (.lstore 11, 2) := by decide +kernel
theorem gd_Forest_countByRule_139 : decode prog_5_method_11_code 139 = .ok (.aload_n 0, 1) := by decide +kernel
theorem gd_Forest_countByRule_140 : decode prog_5_method_11_code 140 = .ok (.getfield 18, 3) := by decide +kernel
theorem gd_Forest_countByRule_143 : decode prog_5_method_11_code 143 = .ok (.iload 5, 2) := by decide +kernel
theorem gd_Forest_countByRule_145 : decode prog_5_method_11_code 145 = .ok (.iconst 4, 1) := by decide +kernel
theorem gd_Forest_countByRule_146 : decode prog_5_method_11_code 146 = .ok (.imul, 1) := by decide +kernel
theorem gd_Forest_countByRule_147 : decode prog_5_method_11_code 147 = .ok (.iload 9, 2) := by decide +kernel
theorem gd_Forest_countByRule_149 : decode prog_5_method_11_code 149 = .ok (.iadd, 1) := by decide +kernel
theorem gd_Forest_countByRule_150 : decode prog_5_method_11_code 150 = .ok (.iaload, 1) := by decide +kernel
theorem gd_Forest_countByRule_151 : decode prog_5_method_11_code 151 = .ok (.iload 10, 2) := by decide +kernel
theorem gd_Forest_countByRule_153 : decode prog_5_method_11_code 153 = .ok (.ishr, 1) := by decide +kernel
theorem gd_Forest_countByRule_154 : decode prog_5_method_11_code 154 = .ok (.iconst 1, 1) := by decide +kernel
theorem gd_Forest_countByRule_155 : decode prog_5_method_11_code 155 = .ok (.iand, 1) := by decide +kernel
theorem gd_Forest_countByRule_156 : decode prog_5_method_11_code 156 = .ok (.ifCond .eq 7, 3) := by decide +kernel
theorem gd_Forest_countByRule_159 : decode prog_5_method_11_code 159 = .ok (.iconst 1, 1) := by decide +kernel
theorem gd_Forest_countByRule_160 : decode prog_5_method_11_code 160 = .ok (.goto 4, 3) := by decide +kernel
theorem gd_Forest_countByRule_163 : decode prog_5_method_11_code 163 = .ok (.iconst 0, 1) := by decide +kernel
theorem gd_Forest_countByRule_164 : decode prog_5_method_11_code 164 = .ok (.istore 13, 2) := by decide +kernel
theorem gd_Forest_countByRule_166 : decode prog_5_method_11_code 166 = .ok (.iload 10, 2) := by decide +kernel
theorem gd_Forest_countByRule_168 : decode prog_5_method_11_code 168 = .ok (.istore 14, 2) := by decide +kernel
theorem gd_Forest_countByRule_170 : decode prog_5_method_11_code 170 = .ok (.iload 14, 2) := by decide +kernel
theorem gd_Forest_countByRule_172 : decode prog_5_method_11_code 172 = .ok (.iload_n 3, 1) := by decide +kernel
theorem gd_Forest_countByRule_173 : decode prog_5_method_11_code 173 = .ok (.if_icmp .gt 81, 3) := by decide +kernel
theorem gd_Forest_countByRule_176 : decode prog_5_method_11_code 176 = .ok (.iload 13, 2) := by decide +kernel
theorem gd_Forest_countByRule_178 : decode prog_5_method_11_code 178 = .ok (.ifCond .eq 76, 3) := by decide +kernel
theorem gd_Forest_countByRule_181 : decode prog_5_method_11_code 181 = .ok (.aload_n 0, 1) := by decide +kernel
theorem gd_Forest_countByRule_182 : decode prog_5_method_11_code 182 = .ok (.getfield 15, 3) := by decide +kernel
theorem gd_Forest_countByRule_185 : decode prog_5_method_11_code 185 = .ok (.iload 6, 2) := by decide +kernel
theorem gd_Forest_countByRule_187 : decode prog_5_method_11_code 187 = .ok (.iload 9, 2) := by decide +kernel
theorem gd_Forest_countByRule_189 : decode prog_5_method_11_code 189 = .ok (.iconst 1, 1) := by decide +kernel
theorem gd_Forest_countByRule_190 : decode prog_5_method_11_code 190 = .ok (.iadd, 1) := by decide +kernel
theorem gd_Forest_countByRule_191 : decode prog_5_method_11_code 191 = .ok (.bipush 9, 2) := by decide +kernel
theorem gd_Forest_countByRule_193 : decode prog_5_method_11_code 193 = .ok (.imul, 1) := by decide +kernel
theorem gd_Forest_countByRule_194 : decode prog_5_method_11_code 194 = .ok (.iadd, 1) := by decide +kernel
theorem gd_Forest_countByRule_195 : decode prog_5_method_11_code 195 = .ok (.iload 14, 2) := by decide +kernel
theorem gd_Forest_countByRule_197 : decode prog_5_method_11_code 197 = .ok (.iadd, 1) := by decide +kernel
theorem gd_Forest_countByRule_198 : decode prog_5_method_11_code 198 = .ok (.laload, 1) := by decide +kernel
theorem gd_Forest_countByRule_199 : decode prog_5_method_11_code 199 = .ok (.lstore 15, 2) := by decide +kernel
theorem gd_Forest_countByRule_201 : decode prog_5_method_11_code 201 = .ok (.lload 15, 2) := by decide +kernel
theorem gd_Forest_countByRule_203 : decode prog_5_method_11_code 203 = .ok (.lconst 0, 1) := by decide +kernel
theorem gd_Forest_countByRule_204 : decode prog_5_method_11_code 204 = .ok (.lcmp, 1) := by decide +kernel
theorem gd_Forest_countByRule_205 : decode prog_5_method_11_code 205 = .ok (.ifCond .le 43, 3) := by decide +kernel
theorem gd_Forest_countByRule_208 : decode prog_5_method_11_code 208 = .ok (.aload_n 0, 1) := by decide +kernel
theorem gd_Forest_countByRule_209 : decode prog_5_method_11_code 209 = .ok (.aload_n 0, 1) := by decide +kernel
theorem gd_Forest_countByRule_210 : decode prog_5_method_11_code 210 = .ok (.getfield 32, 3) := by decide +kernel
theorem gd_Forest_countByRule_213 : decode prog_5_method_11_code 213 = .ok (.iload_n 1, 1) := by decide +kernel
theorem gd_Forest_countByRule_214 : decode prog_5_method_11_code 214 = .ok (.iload 9, 2) := by decide +kernel
theorem gd_Forest_countByRule_216 : decode prog_5_method_11_code 216 = .ok (.invokevirtual 119, 3) := by decide +kernel
theorem gd_Forest_countByRule_219 : decode prog_5_method_11_code 219 = .ok (.iload 10, 2) := by decide +kernel
theorem gd_Forest_countByRule_221 : decode prog_5_method_11_code 221 = .ok (.iload 14, 2) := by decide +kernel
theorem gd_Forest_countByRule_223 : decode prog_5_method_11_code 223 = .ok (.iload_n 2, 1) := by decide +kernel
theorem gd_Forest_countByRule_224 : decode prog_5_method_11_code 224 = .ok (.iload_n 3, 1) := by decide +kernel
theorem gd_Forest_countByRule_225 : decode prog_5_method_11_code 225 = .ok (.iload 4, 2) := by decide +kernel
theorem gd_Forest_countByRule_227 : decode prog_5_method_11_code 227 = .ok (.iload 5, 2) := by decide +kernel
theorem gd_Forest_countByRule_229 : decode prog_5_method_11_code 229 = .ok (.invokevirtual 125, 3) := by decide +kernel
theorem gd_Forest_countByRule_232 : decode prog_5_method_11_code 232 = .ok (.lstore 17, 2) := by decide +kernel
theorem gd_Forest_countByRule_234 : decode prog_5_method_11_code 234 = .ok (.lload 11, 2) := by decide +kernel
theorem gd_Forest_countByRule_236 : decode prog_5_method_11_code 236 = .ok (.lload 17, 2) := by decide +kernel
theorem gd_Forest_countByRule_238 : decode prog_5_method_11_code 238 = .ok (.lload 15, 2) := by decide +kernel
theorem gd_Forest_countByRule_240 : decode prog_5_method_11_code 240 = .ok (.invokestatic 129, 3) := by decide +kernel
theorem gd_Forest_countByRule_243 : decode prog_5_method_11_code 243 = .ok (.invokestatic 104, 3) := by decide +kernel
theorem gd_Forest_countByRule_246 : decode prog_5_method_11_code 246 = .ok (.lstore 11, 2) := by decide +kernel
theorem gd_Forest_countByRule_248 : decode prog_5_method_11_code 248 = .ok (.iinc 14 1, 3) := by decide +kernel
theorem gd_Forest_countByRule_251 : decode prog_5_method_11_code 251 = .ok (.goto (-81), 3) := by decide +kernel
theorem gd_Forest_countByRule_254 : decode prog_5_method_11_code 254 = .ok (.aload_n 0, 1) := by decide +kernel
theorem gd_Forest_countByRule_255 : decode prog_5_method_11_code 255 = .ok (.getfield 15, 3) := by decide +kernel
theorem gd_Forest_countByRule_258 : decode prog_5_method_11_code 258 = .ok (.iload 6, 2) := by decide +kernel
theorem gd_Forest_countByRule_260 : decode prog_5_method_11_code 260 = .ok (.iload 9, 2) := by decide +kernel
theorem gd_Forest_countByRule_262 : decode prog_5_method_11_code 262 = .ok (.bipush 9, 2) := by decide +kernel
theorem gd_Forest_countByRule_264 : decode prog_5_method_11_code 264 = .ok (.imul, 1) := by decide +kernel
theorem gd_Forest_countByRule_265 : decode prog_5_method_11_code 265 = .ok (.iadd, 1) := by decide +kernel
theorem gd_Forest_countByRule_266 : decode prog_5_method_11_code 266 = .ok (.iload 10, 2) := by decide +kernel
theorem gd_Forest_countByRule_268 : decode prog_5_method_11_code 268 = .ok (.iadd, 1) := by decide +kernel
theorem gd_Forest_countByRule_269 : decode prog_5_method_11_code 269 = .ok (.lload 11, 2) := by decide +kernel
theorem gd_Forest_countByRule_271 : decode prog_5_method_11_code 271 = .ok (.lastore, 1) := by decide +kernel
theorem gd_Forest_countByRule_272 : decode prog_5_method_11_code 272 = .ok (.iinc 10 1, 3) := by decide +kernel
theorem gd_Forest_countByRule_275 : decode prog_5_method_11_code 275 = .ok (.goto (-145), 3) := by decide +kernel
theorem gd_Forest_countByRule_278 : decode prog_5_method_11_code 278 = .ok (.iinc 9 (-1), 3) := by decide +kernel
theorem gd_Forest_countByRule_281 : decode prog_5_method_11_code 281 = .ok (.goto (-159), 3) := by decide +kernel
theorem gd_Forest_countByRule_284 : decode prog_5_method_11_code 284 = .ok (.aload_n 0, 1) := by decide +kernel
theorem gd_Forest_countByRule_285 : decode prog_5_method_11_code 285 = .ok (.getfield 15, 3) := by decide +kernel
theorem gd_Forest_countByRule_288 : decode prog_5_method_11_code 288 = .ok (.iload 6, 2) := by decide +kernel
theorem gd_Forest_countByRule_290 : decode prog_5_method_11_code 290 = .ok (.iload_n 2, 1) := by decide +kernel
theorem gd_Forest_countByRule_291 : decode prog_5_method_11_code 291 = .ok (.iadd, 1) := by decide +kernel
theorem gd_Forest_countByRule_292 : decode prog_5_method_11_code 292 = .ok (.laload, 1) := by decide +kernel
theorem gd_Forest_countByRule_293 : decode prog_5_method_11_code 293 = .ok (.lreturn, 1) := by decide +kernel
theorem gd_Forest_countOfPart_0 : decode prog_5_method_13_code 0 = .ok (.aload_n 0, 1) := by decide +kernel
theorem gd_Forest_countOfPart_1 : decode prog_5_method_13_code 1 = .ok (.getfield 32, 3) := by decide +kernel
theorem gd_Forest_countOfPart_4 : decode prog_5_method_13_code 4 = .ok (.iload_n 1, 1) := by decide +kernel
theorem gd_Forest_countOfPart_5 : decode prog_5_method_13_code 5 = .ok (.invokevirtual 132, 3) := by decide +kernel
theorem gd_Forest_countOfPart_8 : decode prog_5_method_13_code 8 = .ok (.istore 8, 2) := by decide +kernel
theorem gd_Forest_countOfPart_10 : decode prog_5_method_13_code 10 = .ok (.iload 8, 2) := by decide +kernel
theorem gd_Forest_countOfPart_12 : decode prog_5_method_13_code 12 = .ok (.iconst (-1), 1) := by decide +kernel
theorem gd_Forest_countOfPart_13 : decode prog_5_method_13_code 13 = .ok (.if_icmp .ne 28, 3) := by decide +kernel
theorem gd_Forest_countOfPart_16 : decode prog_5_method_13_code 16 = .ok (.iload_n 3, 1) := by decide +kernel
theorem gd_Forest_countOfPart_17 : decode prog_5_method_13_code 17 = .ok (.iload_n 2, 1) := by decide +kernel
theorem gd_Forest_countOfPart_18 : decode prog_5_method_13_code 18 = .ok (.iconst 1, 1) := by decide +kernel
theorem gd_Forest_countOfPart_19 : decode prog_5_method_13_code 19 = .ok (.iadd, 1) := by decide +kernel
theorem gd_Forest_countOfPart_20 : decode prog_5_method_13_code 20 = .ok (.if_icmp .ne 19, 3) := by decide +kernel
theorem gd_Forest_countOfPart_23 : decode prog_5_method_13_code 23 = .ok (.aload_n 0, 1) := by decide +kernel
theorem gd_Forest_countOfPart_24 : decode prog_5_method_13_code 24 = .ok (.getfield 40, 3) := by decide +kernel
theorem gd_Forest_countOfPart_27 : decode prog_5_method_13_code 27 = .ok (.iload_n 1, 1) := by decide +kernel
theorem gd_Forest_countOfPart_28 : decode prog_5_method_13_code 28 = .ok (.iload_n 2, 1) := by decide +kernel
theorem gd_Forest_countOfPart_29 : decode prog_5_method_13_code 29 = .ok (.invokevirtual 135, 3) := by decide +kernel
theorem gd_Forest_countOfPart_32 : decode prog_5_method_13_code 32 = .ok (.ifCond .eq 7, 3) := by decide +kernel
theorem gd_Forest_countOfPart_35 : decode prog_5_method_13_code 35 = .ok (.lconst 1, 1) := by decide +kernel
theorem gd_Forest_countOfPart_36 : decode prog_5_method_13_code 36 = .ok (.goto 4, 3) := by decide +kernel
theorem gd_Forest_countOfPart_39 : decode prog_5_method_13_code 39 = .ok (.lconst 0, 1) := by decide +kernel
theorem gd_Forest_countOfPart_40 : decode prog_5_method_13_code 40 = .ok (.lreturn, 1) := by decide +kernel
theorem gd_Forest_countOfPart_41 : decode prog_5_method_13_code 41 = .ok (.iload_n 2, 1) := by decide +kernel
theorem gd_Forest_countOfPart_42 : decode prog_5_method_13_code 42 = .ok (.iload 4, 2) := by decide +kernel
theorem gd_Forest_countOfPart_44 : decode prog_5_method_13_code 44 = .ok (.if_icmp .ne 28, 3) := by decide +kernel
theorem gd_Forest_countOfPart_47 : decode prog_5_method_13_code 47 = .ok (.iload_n 3, 1) := by decide +kernel
theorem gd_Forest_countOfPart_48 : decode prog_5_method_13_code 48 = .ok (.iload 5, 2) := by decide +kernel
theorem gd_Forest_countOfPart_50 : decode prog_5_method_13_code 50 = .ok (.if_icmp .ne 22, 3) := by decide +kernel
theorem gd_Forest_countOfPart_53 : decode prog_5_method_13_code 53 = .ok (.aload_n 0, 1) := by decide +kernel
theorem gd_Forest_countOfPart_54 : decode prog_5_method_13_code 54 = .ok (.iload 8, 2) := by decide +kernel
theorem gd_Forest_countOfPart_56 : decode prog_5_method_13_code 56 = .ok (.iload 4, 2) := by decide +kernel
theorem gd_Forest_countOfPart_58 : decode prog_5_method_13_code 58 = .ok (.iload 5, 2) := by decide +kernel
theorem gd_Forest_countOfPart_60 : decode prog_5_method_13_code 60 = .ok (.iload 6, 2) := by decide +kernel
theorem gd_Forest_countOfPart_62 : decode prog_5_method_13_code 62 = .ok (.iload 7, 2) := by decide +kernel
theorem gd_Forest_countOfPart_64 : decode prog_5_method_13_code 64 = .ok (.iconst 1, 1) := by decide +kernel
theorem gd_Forest_countOfPart_65 : decode prog_5_method_13_code 65 = .ok (.iadd, 1) := by decide +kernel
theorem gd_Forest_countOfPart_66 : decode prog_5_method_13_code 66 = .ok (.invokevirtual 75, 3) := by decide +kernel
theorem gd_Forest_countOfPart_69 : decode prog_5_method_13_code 69 = .ok (.goto 15, 3) := by decide +kernel
theorem gd_Forest_countOfPart_72 : decode prog_5_method_13_code 72 = .ok (.aload_n 0, 1) := by decide +kernel
theorem gd_Forest_countOfPart_73 : decode prog_5_method_13_code 73 = .ok (.getfield 9, 3) := by decide +kernel
theorem gd_Forest_countOfPart_76 : decode prog_5_method_13_code 76 = .ok (.iload 8, 2) := by decide +kernel
theorem gd_Forest_countOfPart_78 : decode prog_5_method_13_code 78 = .ok (.iload_n 2, 1) := by decide +kernel
theorem gd_Forest_countOfPart_79 : decode prog_5_method_13_code 79 = .ok (.iload_n 3, 1) := by decide +kernel
theorem gd_Forest_countOfPart_80 : decode prog_5_method_13_code 80 = .ok (.invokestatic 58, 3) := by decide +kernel
theorem gd_Forest_countOfPart_83 : decode prog_5_method_13_code 83 = .ok (.laload, 1) := by decide +kernel
theorem gd_Forest_countOfPart_84 : decode prog_5_method_13_code 84 = .ok (.lreturn, 1) := by decide +kernel
theorem gd_Forest_times_0 : decode prog_5_method_15_code 0 = .ok (.lload_n 0, 1) := by decide +kernel
theorem gd_Forest_times_1 : decode prog_5_method_15_code 1 = .ok (.lconst 0, 1) := by decide +kernel
theorem gd_Forest_times_2 : decode prog_5_method_15_code 2 = .ok (.lcmp, 1) := by decide +kernel
theorem gd_Forest_times_3 : decode prog_5_method_15_code 3 = .ok (.ifCond .eq 9, 3) := by decide +kernel
theorem gd_Forest_times_6 : decode prog_5_method_15_code 6 = .ok (.lload_n 2, 1) := by decide +kernel
theorem gd_Forest_times_7 : decode prog_5_method_15_code 7 = .ok (.lconst 0, 1) := by decide +kernel
theorem gd_Forest_times_8 : decode prog_5_method_15_code 8 = .ok (.lcmp, 1) := by decide +kernel
theorem gd_Forest_times_9 : decode prog_5_method_15_code 9 = .ok (.ifCond .ne 5, 3) := by decide +kernel
theorem gd_Forest_times_12 : decode prog_5_method_15_code 12 = .ok (.lconst 0, 1) := by decide +kernel
theorem gd_Forest_times_13 : decode prog_5_method_15_code 13 = .ok (.lreturn, 1) := by decide +kernel
theorem gd_Forest_times_14 : decode prog_5_method_15_code 14 = .ok (.lload_n 0, 1) := by decide +kernel
theorem gd_Forest_times_15 : decode prog_5_method_15_code 15 = .ok (.ldc2_w 141, 3) := by decide +kernel
theorem gd_Forest_times_18 : decode prog_5_method_15_code 18 = .ok (.lload_n 2, 1) := by decide +kernel
theorem gd_Forest_times_19 : decode prog_5_method_15_code 19 = .ok (.ldiv, 1) := by decide +kernel
theorem gd_Forest_times_20 : decode prog_5_method_15_code 20 = .ok (.lcmp, 1) := by decide +kernel
theorem gd_Forest_times_21 : decode prog_5_method_15_code 21 = .ok (.ifCond .le 9, 3) := by decide +kernel
theorem gd_Forest_times_24 : decode prog_5_method_15_code 24 = .ok (.ldc2_w 141, 3) := by decide +kernel
theorem gd_Forest_times_27 : decode prog_5_method_15_code 27 = .ok (.goto 12, 3) := by decide +kernel
theorem gd_Forest_times_30 : decode prog_5_method_15_code 30 = .ok (.lload_n 0, 1) := by decide +kernel
theorem gd_Forest_times_31 : decode prog_5_method_15_code 31 = .ok (.lload_n 2, 1) := by decide +kernel
theorem gd_Forest_times_32 : decode prog_5_method_15_code 32 = .ok (.lmul, 1) := by decide +kernel
theorem gd_Forest_times_33 : decode prog_5_method_15_code 33 = .ok (.ldc2_w 141, 3) := by decide +kernel
theorem gd_Forest_times_36 : decode prog_5_method_15_code 36 = .ok (.invokestatic 143, 3) := by decide +kernel
theorem gd_Forest_times_39 : decode prog_5_method_15_code 39 = .ok (.lreturn, 1) := by decide +kernel
theorem gd_Forest_plus_0 : decode prog_5_method_14_code 0 = .ok (.lload_n 0, 1) := by decide +kernel
theorem gd_Forest_plus_1 : decode prog_5_method_14_code 1 = .ok (.lload_n 2, 1) := by decide +kernel
theorem gd_Forest_plus_2 : decode prog_5_method_14_code 2 = .ok (.ladd, 1) := by decide +kernel
theorem gd_Forest_plus_3 : decode prog_5_method_14_code 3 = .ok (.ldc2_w 141, 3) := by decide +kernel
theorem gd_Forest_plus_6 : decode prog_5_method_14_code 6 = .ok (.invokestatic 143, 3) := by decide +kernel
theorem gd_Forest_plus_9 : decode prog_5_method_14_code 9 = .ok (.lreturn, 1) := by decide +kernel
theorem gd_Forest_keep_0 : decode prog_5_method_9_code 0 = .ok (.iload 4, 2) := by decide +kernel
theorem gd_Forest_keep_2 : decode prog_5_method_9_code 2 = .ok (.ifCond .ne 17, 3) := by decide +kernel
theorem gd_Forest_keep_5 : decode prog_5_method_9_code 5 = .ok (.aload_n 0, 1) := by decide +kernel
theorem gd_Forest_keep_6 : decode prog_5_method_9_code 6 = .ok (.getfield 9, 3) := by decide +kernel
theorem gd_Forest_keep_9 : decode prog_5_method_9_code 9 = .ok (.iload_n 1, 1) := by decide +kernel
theorem gd_Forest_keep_10 : decode prog_5_method_9_code 10 = .ok (.iload_n 2, 1) := by decide +kernel
theorem gd_Forest_keep_11 : decode prog_5_method_9_code 11 = .ok (.iload_n 3, 1) := by decide +kernel
theorem gd_Forest_keep_12 : decode prog_5_method_9_code 12 = .ok (.invokestatic 58, 3) := by decide +kernel
theorem gd_Forest_keep_15 : decode prog_5_method_9_code 15 = .ok (.lload 5, 2) := by decide +kernel
theorem gd_Forest_keep_17 : decode prog_5_method_9_code 17 = .ok (.lastore, 1) := by decide +kernel
theorem gd_Forest_keep_18 : decode prog_5_method_9_code 18 = .ok (.return_, 1) := by decide +kernel
theorem gd_Forest_keep_19 : decode prog_5_method_9_code 19 = .ok (.aload_n 0, 1) := by decide +kernel
theorem gd_Forest_keep_20 : decode prog_5_method_9_code 20 = .ok (.getfield 22, 3) := by decide +kernel
theorem gd_Forest_keep_23 : decode prog_5_method_9_code 23 = .ok (.arraylength, 1) := by decide +kernel
theorem gd_Forest_keep_24 : decode prog_5_method_9_code 24 = .ok (.ifCond .ne 21, 3) := by decide +kernel
theorem gd_Forest_keep_27 : decode prog_5_method_9_code 27 = .ok (.aload_n 0, 1) := by decide +kernel
theorem gd_Forest_keep_28 : decode prog_5_method_9_code 28 = .ok (.sipush 4096, 3) := by decide +kernel
theorem gd_Forest_keep_31 : decode prog_5_method_9_code 31 = .ok (.newarray .long, 2) := by decide +kernel
theorem gd_Forest_keep_33 : decode prog_5_method_9_code 33 = .ok (.putfield 22, 3) := by decide +kernel
theorem gd_Forest_keep_36 : decode prog_5_method_9_code 36 = .ok (.aload_n 0, 1) := by decide +kernel
theorem gd_Forest_keep_37 : decode prog_5_method_9_code 37 = .ok (.sipush 4096, 3) := by decide +kernel
theorem gd_Forest_keep_40 : decode prog_5_method_9_code 40 = .ok (.newarray .int, 2) := by decide +kernel
theorem gd_Forest_keep_42 : decode prog_5_method_9_code 42 = .ok (.putfield 25, 3) := by decide +kernel
theorem gd_Forest_keep_45 : decode prog_5_method_9_code 45 = .ok (.iload_n 1, 1) := by decide +kernel
theorem gd_Forest_keep_46 : decode prog_5_method_9_code 46 = .ok (.iload_n 2, 1) := by decide +kernel
theorem gd_Forest_keep_47 : decode prog_5_method_9_code 47 = .ok (.iload_n 3, 1) := by decide +kernel
theorem gd_Forest_keep_48 : decode prog_5_method_9_code 48 = .ok (.iload 4, 2) := by decide +kernel
theorem gd_Forest_keep_50 : decode prog_5_method_9_code 50 = .ok (.invokestatic 112, 3) := by decide +kernel
theorem gd_Forest_keep_53 : decode prog_5_method_9_code 53 = .ok (.istore 7, 2) := by decide +kernel
theorem gd_Forest_keep_55 : decode prog_5_method_9_code 55 = .ok (.aload_n 0, 1) := by decide +kernel
theorem gd_Forest_keep_56 : decode prog_5_method_9_code 56 = .ok (.getfield 22, 3) := by decide +kernel
theorem gd_Forest_keep_59 : decode prog_5_method_9_code 59 = .ok (.iload 7, 2) := by decide +kernel
theorem gd_Forest_keep_61 : decode prog_5_method_9_code 61 = .ok (.lload 5, 2) := by decide +kernel
theorem gd_Forest_keep_63 : decode prog_5_method_9_code 63 = .ok (.lastore, 1) := by decide +kernel
theorem gd_Forest_keep_64 : decode prog_5_method_9_code 64 = .ok (.aload_n 0, 1) := by decide +kernel
theorem gd_Forest_keep_65 : decode prog_5_method_9_code 65 = .ok (.getfield 25, 3) := by decide +kernel
theorem gd_Forest_keep_68 : decode prog_5_method_9_code 68 = .ok (.iload 7, 2) := by decide +kernel
theorem gd_Forest_keep_70 : decode prog_5_method_9_code 70 = .ok (.iload_n 2, 1) := by decide +kernel
theorem gd_Forest_keep_71 : decode prog_5_method_9_code 71 = .ok (.iload_n 3, 1) := by decide +kernel
theorem gd_Forest_keep_72 : decode prog_5_method_9_code 72 = .ok (.if_icmp .ne 10, 3) := by decide +kernel
theorem gd_Forest_keep_75 : decode prog_5_method_9_code 75 = .ok (.aload_n 0, 1) := by decide +kernel
theorem gd_Forest_keep_76 : decode prog_5_method_9_code 76 = .ok (.getfield 65, 3) := by decide +kernel
theorem gd_Forest_keep_79 : decode prog_5_method_9_code 79 = .ok (.goto 7, 3) := by decide +kernel
theorem gd_Forest_keep_82 : decode prog_5_method_9_code 82 = .ok (.aload_n 0, 1) := by decide +kernel
theorem gd_Forest_keep_83 : decode prog_5_method_9_code 83 = .ok (.getfield 62, 3) := by decide +kernel
theorem gd_Forest_keep_86 : decode prog_5_method_9_code 86 = .ok (.iastore, 1) := by decide +kernel
theorem gd_Forest_keep_87 : decode prog_5_method_9_code 87 = .ok (.return_, 1) := by decide +kernel
theorem gd_House_properly_0 : decode prog_1_method_31_code 0 = .ok (.aload_n 0, 1) := by decide +kernel
theorem gd_House_properly_1 : decode prog_1_method_31_code 1 = .ok (.getfield 129, 3) := by decide +kernel
theorem gd_House_properly_4 : decode prog_1_method_31_code 4 = .ok (.ifCond .ne 7, 3) := by decide +kernel
theorem gd_House_properly_7 : decode prog_1_method_31_code 7 = .ok (.sipush (-1003), 3) := by decide +kernel
theorem gd_House_properly_10 : decode prog_1_method_31_code 10 = .ok (.ireturn, 1) := by decide +kernel
theorem gd_House_properly_11 : decode prog_1_method_31_code 11 = .ok (.aload_n 0, 1) := by decide +kernel
theorem gd_House_properly_12 : decode prog_1_method_31_code 12 = .ok (.iload_n 1, 1) := by decide +kernel
theorem gd_House_properly_13 : decode prog_1_method_31_code 13 = .ok (.invokevirtual 221, 3) := by decide +kernel
theorem gd_House_properly_16 : decode prog_1_method_31_code 16 = .ok (.ifCond .ne 7, 3) := by decide +kernel
theorem gd_House_properly_19 : decode prog_1_method_31_code 19 = .ok (.sipush (-1001), 3) := by decide +kernel
theorem gd_House_properly_22 : decode prog_1_method_31_code 22 = .ok (.ireturn, 1) := by decide +kernel
theorem gd_House_properly_23 : decode prog_1_method_31_code 23 = .ok (.aload_n 0, 1) := by decide +kernel
theorem gd_House_properly_24 : decode prog_1_method_31_code 24 = .ok (.getfield 55, 3) := by decide +kernel
theorem gd_House_properly_27 : decode prog_1_method_31_code 27 = .ok (.invokevirtual 224, 3) := by decide +kernel
theorem gd_House_properly_30 : decode prog_1_method_31_code 30 = .ok (.iload_n 1, 1) := by decide +kernel
theorem gd_House_properly_31 : decode prog_1_method_31_code 31 = .ok (.ifCond .le 20, 3) := by decide +kernel
theorem gd_House_properly_34 : decode prog_1_method_31_code 34 = .ok (.aload_n 0, 1) := by decide +kernel
theorem gd_House_properly_35 : decode prog_1_method_31_code 35 = .ok (.getfield 55, 3) := by decide +kernel
theorem gd_House_properly_38 : decode prog_1_method_31_code 38 = .ok (.iconst 0, 1) := by decide +kernel
theorem gd_House_properly_39 : decode prog_1_method_31_code 39 = .ok (.iconst 0, 1) := by decide +kernel
theorem gd_House_properly_40 : decode prog_1_method_31_code 40 = .ok (.iload_n 1, 1) := by decide +kernel
theorem gd_House_properly_41 : decode prog_1_method_31_code 41 = .ok (.invokevirtual 227, 3) := by decide +kernel
theorem gd_House_properly_44 : decode prog_1_method_31_code 44 = .ok (.ifCond .eq 7, 3) := by decide +kernel
theorem gd_House_properly_47 : decode prog_1_method_31_code 47 = .ok (.iconst 1, 1) := by decide +kernel
theorem gd_House_properly_48 : decode prog_1_method_31_code 48 = .ok (.goto 4, 3) := by decide +kernel
theorem gd_House_properly_51 : decode prog_1_method_31_code 51 = .ok (.iconst 0, 1) := by decide +kernel
theorem gd_House_properly_52 : decode prog_1_method_31_code 52 = .ok (.ireturn, 1) := by decide +kernel
theorem gd_House_items_0 : decode prog_1_method_21_code 0 = .ok (.aload_n 0, 1) := by decide +kernel
theorem gd_House_items_1 : decode prog_1_method_21_code 1 = .ok (.getfield 129, 3) := by decide +kernel
theorem gd_House_items_4 : decode prog_1_method_21_code 4 = .ok (.ifCond .ne 7, 3) := by decide +kernel
theorem gd_House_items_7 : decode prog_1_method_21_code 7 = .ok (.sipush (-1003), 3) := by decide +kernel
theorem gd_House_items_10 : decode prog_1_method_21_code 10 = .ok (.ireturn, 1) := by decide +kernel
theorem gd_House_items_11 : decode prog_1_method_21_code 11 = .ok (.aload_n 0, 1) := by decide +kernel
theorem gd_House_items_12 : decode prog_1_method_21_code 12 = .ok (.iload_n 1, 1) := by decide +kernel
theorem gd_House_items_13 : decode prog_1_method_21_code 13 = .ok (.invokevirtual 221, 3) := by decide +kernel
theorem gd_House_items_16 : decode prog_1_method_21_code 16 = .ok (.ifCond .ne 7, 3) := by decide +kernel
theorem gd_House_items_19 : decode prog_1_method_21_code 19 = .ok (.sipush (-1001), 3) := by decide +kernel
theorem gd_House_items_22 : decode prog_1_method_21_code 22 = .ok (.ireturn, 1) := by decide +kernel
theorem gd_House_items_23 : decode prog_1_method_21_code 23 = .ok (.aload_n 0, 1) := by decide +kernel
theorem gd_House_items_24 : decode prog_1_method_21_code 24 = .ok (.getfield 55, 3) := by decide +kernel
theorem gd_House_items_27 : decode prog_1_method_21_code 27 = .ok (.invokevirtual 224, 3) := by decide +kernel
theorem gd_House_items_30 : decode prog_1_method_21_code 30 = .ok (.aload_n 0, 1) := by decide +kernel
theorem gd_House_items_31 : decode prog_1_method_21_code 31 = .ok (.getfield 55, 3) := by decide +kernel
theorem gd_House_items_34 : decode prog_1_method_21_code 34 = .ok (.getfield 234, 3) := by decide +kernel
theorem gd_House_items_37 : decode prog_1_method_21_code 37 = .ok (.iload_n 1, 1) := by decide +kernel
theorem gd_House_items_38 : decode prog_1_method_21_code 38 = .ok (.iaload, 1) := by decide +kernel
theorem gd_House_items_39 : decode prog_1_method_21_code 39 = .ok (.ireturn, 1) := by decide +kernel
theorem gd_House_repair_0 : decode prog_1_method_25_code 0 = .ok (.aload_n 0, 1) := by decide +kernel
theorem gd_House_repair_1 : decode prog_1_method_25_code 1 = .ok (.getfield 129, 3) := by decide +kernel
theorem gd_House_repair_4 : decode prog_1_method_25_code 4 = .ok (.ifCond .eq 13, 3) := by decide +kernel
theorem gd_House_repair_7 : decode prog_1_method_25_code 7 = .ok (.aload_n 0, 1) := by decide +kernel
theorem gd_House_repair_8 : decode prog_1_method_25_code 8 = .ok (.getfield 64, 3) := by decide +kernel
theorem gd_House_repair_11 : decode prog_1_method_25_code 11 = .ok (.invokevirtual 244, 3) := by decide +kernel
theorem gd_House_repair_14 : decode prog_1_method_25_code 14 = .ok (.goto 6, 3) := by decide +kernel
theorem gd_House_repair_17 : decode prog_1_method_25_code 17 = .ok (.sipush (-1003), 3) := by decide +kernel
theorem gd_House_repair_20 : decode prog_1_method_25_code 20 = .ok (.ireturn, 1) := by decide +kernel
theorem gd_Wants_changes_0 : decode prog_12_method_6_code 0 = .ok (.aload_n 0, 1) := by decide +kernel
theorem gd_Wants_changes_1 : decode prog_12_method_6_code 1 = .ok (.getfield 32, 3) := by decide +kernel
theorem gd_Wants_changes_4 : decode prog_12_method_6_code 4 = .ok (.getfield 101, 3) := by decide +kernel
theorem gd_Wants_changes_7 : decode prog_12_method_6_code 7 = .ok (.iconst 1, 1) := by decide +kernel
theorem gd_Wants_changes_8 : decode prog_12_method_6_code 8 = .ok (.iand, 1) := by decide +kernel
theorem gd_Wants_changes_9 : decode prog_12_method_6_code 9 = .ok (.ifCond .ne 5, 3) := by decide +kernel
theorem gd_Wants_changes_12 : decode prog_12_method_6_code 12 = .ok (.iconst (-1), 1) := by decide +kernel
theorem gd_Wants_changes_13 : decode prog_12_method_6_code 13 = .ok (.ireturn, 1) := by decide +kernel
theorem gd_Wants_changes_14 : decode prog_12_method_6_code 14 = .ok (.aload_n 0, 1) := by decide +kernel
theorem gd_Wants_changes_15 : decode prog_12_method_6_code 15 = .ok (.getfield 18, 3) := by decide +kernel
theorem gd_Wants_changes_18 : decode prog_12_method_6_code 18 = .ok (.iconst 1, 1) := by decide +kernel
theorem gd_Wants_changes_19 : decode prog_12_method_6_code 19 = .ok (.iadd, 1) := by decide +kernel
theorem gd_Wants_changes_20 : decode prog_12_method_6_code 20 = .ok (.istore_n 1, 1) := by decide +kernel
theorem gd_Wants_changes_21 : decode prog_12_method_6_code 21 = .ok (.iload_n 1, 1) := by decide +kernel
theorem gd_Wants_changes_22 : decode prog_12_method_6_code 22 = .ok (.aload_n 0, 1) := by decide +kernel
theorem gd_Wants_changes_23 : decode prog_12_method_6_code 23 = .ok (.getfield 36, 3) := by decide +kernel
theorem gd_Wants_changes_26 : decode prog_12_method_6_code 26 = .ok (.getfield 104, 3) := by decide +kernel
theorem gd_Wants_changes_29 : decode prog_12_method_6_code 29 = .ok (.if_icmp .gt 19, 3) := by decide +kernel
theorem gd_Wants_changes_32 : decode prog_12_method_6_code 32 = .ok (.aload_n 0, 1) := by decide +kernel
theorem gd_Wants_changes_33 : decode prog_12_method_6_code 33 = .ok (.iload_n 1, 1) := by decide +kernel
theorem gd_Wants_changes_34 : decode prog_12_method_6_code 34 = .ok (.invokevirtual 109, 3) := by decide +kernel
theorem gd_Wants_changes_37 : decode prog_12_method_6_code 37 = .ok (.aload_n 0, 1) := by decide +kernel
theorem gd_Wants_changes_38 : decode prog_12_method_6_code 38 = .ok (.iload_n 1, 1) := by decide +kernel
theorem gd_Wants_changes_39 : decode prog_12_method_6_code 39 = .ok (.putfield 18, 3) := by decide +kernel
theorem gd_Wants_changes_42 : decode prog_12_method_6_code 42 = .ok (.iinc 1 1, 3) := by decide +kernel
theorem gd_Wants_changes_45 : decode prog_12_method_6_code 45 = .ok (.goto (-24), 3) := by decide +kernel
theorem gd_Wants_changes_48 : decode prog_12_method_6_code 48 = .ok (.aload_n 0, 1) := by decide +kernel
theorem gd_Wants_changes_49 : decode prog_12_method_6_code 49 = .ok (.getfield 22, 3) := by decide +kernel
theorem gd_Wants_changes_52 : decode prog_12_method_6_code 52 = .ok (.aload_n 0, 1) := by decide +kernel
theorem gd_Wants_changes_53 : decode prog_12_method_6_code 53 = .ok (.getfield 36, 3) := by decide +kernel
theorem gd_Wants_changes_56 : decode prog_12_method_6_code 56 = .ok (.getfield 104, 3) := by decide +kernel
theorem gd_Wants_changes_59 : decode prog_12_method_6_code 59 = .ok (.iaload, 1) := by decide +kernel
theorem gd_Wants_changes_60 : decode prog_12_method_6_code 60 = .ok (.ireturn, 1) := by decide +kernel
theorem gd_Wants_findCosts_0 : decode prog_12_method_7_code 0 = .ok (.iconst 0, 1) := by decide +kernel
theorem gd_Wants_findCosts_1 : decode prog_12_method_7_code 1 = .ok (.istore_n 2, 1) := by decide +kernel
theorem gd_Wants_findCosts_2 : decode prog_12_method_7_code 2 = .ok (.iload_n 2, 1) := by decide +kernel
theorem gd_Wants_findCosts_3 : decode prog_12_method_7_code 3 = .ok (.aload_n 0, 1) := by decide +kernel
theorem gd_Wants_findCosts_4 : decode prog_12_method_7_code 4 = .ok (.getfield 28, 3) := by decide +kernel
theorem gd_Wants_findCosts_7 : decode prog_12_method_7_code 7 = .ok (.getfield 64, 3) := by decide +kernel
theorem gd_Wants_findCosts_10 : decode prog_12_method_7_code 10 = .ok (.if_icmp .ge 29, 3) := by decide +kernel
theorem gd_Wants_findCosts_13 : decode prog_12_method_7_code 13 = .ok (.aload_n 0, 1) := by decide +kernel
theorem gd_Wants_findCosts_14 : decode prog_12_method_7_code 14 = .ok (.getfield 22, 3) := by decide +kernel
theorem gd_Wants_findCosts_17 : decode prog_12_method_7_code 17 = .ok (.iload_n 2, 1) := by decide +kernel
theorem gd_Wants_findCosts_18 : decode prog_12_method_7_code 18 = .ok (.iload_n 1, 1) := by decide +kernel
theorem gd_Wants_findCosts_19 : decode prog_12_method_7_code 19 = .ok (.iload_n 1, 1) := by decide +kernel
theorem gd_Wants_findCosts_20 : decode prog_12_method_7_code 20 = .ok (.invokestatic 113, 3) := by decide +kernel
theorem gd_Wants_findCosts_23 : decode prog_12_method_7_code 23 = .ok (.aload_n 0, 1) := by decide +kernel
theorem gd_Wants_findCosts_24 : decode prog_12_method_7_code 24 = .ok (.getfield 32, 3) := by decide +kernel
theorem gd_Wants_findCosts_27 : decode prog_12_method_7_code 27 = .ok (.getfield 69, 3) := by decide +kernel
theorem gd_Wants_findCosts_30 : decode prog_12_method_7_code 30 = .ok (.iload_n 2, 1) := by decide +kernel
theorem gd_Wants_findCosts_31 : decode prog_12_method_7_code 31 = .ok (.iaload, 1) := by decide +kernel
theorem gd_Wants_findCosts_32 : decode prog_12_method_7_code 32 = .ok (.iastore, 1) := by decide +kernel
theorem gd_Wants_findCosts_33 : decode prog_12_method_7_code 33 = .ok (.iinc 2 1, 3) := by decide +kernel
theorem gd_Wants_findCosts_36 : decode prog_12_method_7_code 36 = .ok (.goto (-34), 3) := by decide +kernel
theorem gd_Wants_findCosts_39 : decode prog_12_method_7_code 39 = .ok (.iload_n 1, 1) := by decide +kernel
theorem gd_Wants_findCosts_40 : decode prog_12_method_7_code 40 = .ok (.iconst 1, 1) := by decide +kernel
theorem gd_Wants_findCosts_41 : decode prog_12_method_7_code 41 = .ok (.isub, 1) := by decide +kernel
theorem gd_Wants_findCosts_42 : decode prog_12_method_7_code 42 = .ok (.istore_n 2, 1) := by decide +kernel
theorem gd_Wants_findCosts_43 : decode prog_12_method_7_code 43 = .ok (.iload_n 2, 1) := by decide +kernel
theorem gd_Wants_findCosts_44 : decode prog_12_method_7_code 44 = .ok (.ifCond .lt 176, 3) := by decide +kernel
theorem gd_Wants_findCosts_47 : decode prog_12_method_7_code 47 = .ok (.iconst 0, 1) := by decide +kernel
theorem gd_Wants_findCosts_48 : decode prog_12_method_7_code 48 = .ok (.istore_n 3, 1) := by decide +kernel
theorem gd_Wants_findCosts_49 : decode prog_12_method_7_code 49 = .ok (.iload_n 3, 1) := by decide +kernel
theorem gd_Wants_findCosts_50 : decode prog_12_method_7_code 50 = .ok (.aload_n 0, 1) := by decide +kernel
theorem gd_Wants_findCosts_51 : decode prog_12_method_7_code 51 = .ok (.getfield 28, 3) := by decide +kernel
theorem gd_Wants_findCosts_54 : decode prog_12_method_7_code 54 = .ok (.getfield 64, 3) := by decide +kernel
theorem gd_Wants_findCosts_57 : decode prog_12_method_7_code 57 = .ok (.if_icmp .ge 22, 3) := by decide +kernel
theorem gd_Wants_findCosts_60 : decode prog_12_method_7_code 60 = .ok (.aload_n 0, 1) := by decide +kernel
theorem gd_Wants_findCosts_61 : decode prog_12_method_7_code 61 = .ok (.getfield 22, 3) := by decide +kernel
theorem gd_Wants_findCosts_64 : decode prog_12_method_7_code 64 = .ok (.iload_n 3, 1) := by decide +kernel
theorem gd_Wants_findCosts_65 : decode prog_12_method_7_code 65 = .ok (.iload_n 2, 1) := by decide +kernel
theorem gd_Wants_findCosts_66 : decode prog_12_method_7_code 66 = .ok (.iload_n 1, 1) := by decide +kernel
theorem gd_Wants_findCosts_67 : decode prog_12_method_7_code 67 = .ok (.invokestatic 113, 3) := by decide +kernel
theorem gd_Wants_findCosts_70 : decode prog_12_method_7_code 70 = .ok (.ldc 57, 2) := by decide +kernel
theorem gd_Wants_findCosts_72 : decode prog_12_method_7_code 72 = .ok (.iastore, 1) := by decide +kernel
theorem gd_Wants_findCosts_73 : decode prog_12_method_7_code 73 = .ok (.iinc 3 1, 3) := by decide +kernel
theorem gd_Wants_findCosts_76 : decode prog_12_method_7_code 76 = .ok (.goto (-27), 3) := by decide +kernel
theorem gd_Wants_findCosts_79 : decode prog_12_method_7_code 79 = .ok (.iconst 1, 1) := by decide +kernel
theorem gd_Wants_findCosts_80 : decode prog_12_method_7_code 80 = .ok (.istore_n 3, 1) := by decide +kernel
theorem gd_Wants_findCosts_81 : decode prog_12_method_7_code 81 = .ok (.iconst 0, 1) := by decide +kernel
theorem gd_Wants_findCosts_82 : decode prog_12_method_7_code 82 = .ok (.istore 4, 2) := by decide +kernel
theorem gd_Wants_findCosts_84 : decode prog_12_method_7_code 84 = .ok (.iload_n 3, 1) := by decide +kernel
theorem gd_Wants_findCosts_85 : decode prog_12_method_7_code 85 = .ok (.ifCond .eq 129, 3) := by decide +kernel
theorem gd_Wants_findCosts_88 : decode prog_12_method_7_code 88 = .ok (.iload 4, 2) := by decide +kernel
theorem gd_Wants_findCosts_90 : decode prog_12_method_7_code 90 = .ok (.aload_n 0, 1) := by decide +kernel
theorem gd_Wants_findCosts_91 : decode prog_12_method_7_code 91 = .ok (.getfield 28, 3) := by decide +kernel
theorem gd_Wants_findCosts_94 : decode prog_12_method_7_code 94 = .ok (.getfield 64, 3) := by decide +kernel
theorem gd_Wants_findCosts_97 : decode prog_12_method_7_code 97 = .ok (.if_icmp .ge 117, 3) := by decide +kernel
theorem gd_Wants_findCosts_100 : decode prog_12_method_7_code 100 = .ok (.iconst 0, 1) := by decide +kernel
theorem gd_Wants_findCosts_101 : decode prog_12_method_7_code 101 = .ok (.istore_n 3, 1) := by decide +kernel
theorem gd_Wants_findCosts_102 : decode prog_12_method_7_code 102 = .ok (.iconst 0, 1) := by decide +kernel
theorem gd_Wants_findCosts_103 : decode prog_12_method_7_code 103 = .ok (.istore 5, 2) := by decide +kernel
theorem gd_Wants_findCosts_105 : decode prog_12_method_7_code 105 = .ok (.iload 5, 2) := by decide +kernel
theorem gd_Wants_findCosts_107 : decode prog_12_method_7_code 107 = .ok (.aload_n 0, 1) := by decide +kernel
theorem gd_Wants_findCosts_108 : decode prog_12_method_7_code 108 = .ok (.getfield 28, 3) := by decide +kernel
theorem gd_Wants_findCosts_111 : decode prog_12_method_7_code 111 = .ok (.getfield 74, 3) := by decide +kernel
theorem gd_Wants_findCosts_114 : decode prog_12_method_7_code 114 = .ok (.if_icmp .ge 94, 3) := by decide +kernel
theorem gd_Wants_findCosts_117 : decode prog_12_method_7_code 117 = .ok (.aload_n 0, 1) := by decide +kernel
theorem gd_Wants_findCosts_118 : decode prog_12_method_7_code 118 = .ok (.getfield 28, 3) := by decide +kernel
theorem gd_Wants_findCosts_121 : decode prog_12_method_7_code 121 = .ok (.getfield 77, 3) := by decide +kernel
theorem gd_Wants_findCosts_124 : decode prog_12_method_7_code 124 = .ok (.iload 5, 2) := by decide +kernel
theorem gd_Wants_findCosts_126 : decode prog_12_method_7_code 126 = .ok (.iaload, 1) := by decide +kernel
theorem gd_Wants_findCosts_127 : decode prog_12_method_7_code 127 = .ok (.iload_n 2, 1) := by decide +kernel
theorem gd_Wants_findCosts_128 : decode prog_12_method_7_code 128 = .ok (.iload_n 1, 1) := by decide +kernel
theorem gd_Wants_findCosts_129 : decode prog_12_method_7_code 129 = .ok (.invokestatic 113, 3) := by decide +kernel
theorem gd_Wants_findCosts_132 : decode prog_12_method_7_code 132 = .ok (.istore 6, 2) := by decide +kernel
theorem gd_Wants_findCosts_134 : decode prog_12_method_7_code 134 = .ok (.aload_n 0, 1) := by decide +kernel
theorem gd_Wants_findCosts_135 : decode prog_12_method_7_code 135 = .ok (.getfield 32, 3) := by decide +kernel
theorem gd_Wants_findCosts_138 : decode prog_12_method_7_code 138 = .ok (.iload 5, 2) := by decide +kernel
theorem gd_Wants_findCosts_140 : decode prog_12_method_7_code 140 = .ok (.invokevirtual 116, 3) := by decide +kernel
theorem gd_Wants_findCosts_143 : decode prog_12_method_7_code 143 = .ok (.ifCond .eq 14, 3) := by decide +kernel
theorem gd_Wants_findCosts_146 : decode prog_12_method_7_code 146 = .ok (.aload_n 0, 1) := by decide +kernel
theorem gd_Wants_findCosts_147 : decode prog_12_method_7_code 147 = .ok (.iload 5, 2) := by decide +kernel
theorem gd_Wants_findCosts_149 : decode prog_12_method_7_code 149 = .ok (.iload_n 2, 1) := by decide +kernel
theorem gd_Wants_findCosts_150 : decode prog_12_method_7_code 150 = .ok (.iload_n 1, 1) := by decide +kernel
theorem gd_Wants_findCosts_151 : decode prog_12_method_7_code 151 = .ok (.invokevirtual 120, 3) := by decide +kernel
theorem gd_Wants_findCosts_154 : decode prog_12_method_7_code 154 = .ok (.goto 5, 3) := by decide +kernel
theorem gd_Wants_findCosts_157 : decode prog_12_method_7_code 157 = .ok (.ldc 57, 2) := by decide +kernel
theorem gd_Wants_findCosts_159 : decode prog_12_method_7_code 159 = .ok (.istore 7, 2) := by decide +kernel
theorem gd_Wants_findCosts_161 : decode prog_12_method_7_code 161 = .ok (.iload_n 3, 1) := by decide +kernel
theorem gd_Wants_findCosts_162 : decode prog_12_method_7_code 162 = .ok (.ifCond .ne 15, 3) := by decide +kernel
theorem gd_Wants_findCosts_165 : decode prog_12_method_7_code 165 = .ok (.iload 7, 2) := by decide +kernel
theorem gd_Wants_findCosts_167 : decode prog_12_method_7_code 167 = .ok (.aload_n 0, 1) := by decide +kernel
theorem gd_Wants_findCosts_168 : decode prog_12_method_7_code 168 = .ok (.getfield 22, 3) := by decide +kernel
theorem gd_Wants_findCosts_171 : decode prog_12_method_7_code 171 = .ok (.iload 6, 2) := by decide +kernel
theorem gd_Wants_findCosts_173 : decode prog_12_method_7_code 173 = .ok (.iaload, 1) := by decide +kernel
theorem gd_Wants_findCosts_174 : decode prog_12_method_7_code 174 = .ok (.if_icmp .ge 7, 3) := by decide +kernel
theorem gd_Wants_findCosts_177 : decode prog_12_method_7_code 177 = .ok (.iconst 1, 1) := by decide +kernel
theorem gd_Wants_findCosts_178 : decode prog_12_method_7_code 178 = .ok (.goto 4, 3) := by decide +kernel
theorem gd_Wants_findCosts_181 : decode prog_12_method_7_code 181 = .ok (.iconst 0, 1) := by decide +kernel
theorem gd_Wants_findCosts_182 : decode prog_12_method_7_code 182 = .ok (.istore_n 3, 1) := by decide +kernel
theorem gd_Wants_findCosts_183 : decode prog_12_method_7_code 183 = .ok (.aload_n 0, 1) := by decide +kernel
theorem gd_Wants_findCosts_184 : decode prog_12_method_7_code 184 = .ok (.getfield 22, 3) := by decide +kernel
theorem gd_Wants_findCosts_187 : decode prog_12_method_7_code 187 = .ok (.iload 6, 2) := by decide +kernel
theorem gd_Wants_findCosts_189 : decode prog_12_method_7_code 189 = .ok (.aload_n 0, 1) := by decide +kernel
theorem gd_Wants_findCosts_190 : decode prog_12_method_7_code 190 = .ok (.getfield 22, 3) := by decide +kernel
theorem gd_Wants_findCosts_193 : decode prog_12_method_7_code 193 = .ok (.iload 6, 2) := by decide +kernel
theorem gd_Wants_findCosts_195 : decode prog_12_method_7_code 195 = .ok (.iaload, 1) := by decide +kernel
theorem gd_Wants_findCosts_196 : decode prog_12_method_7_code 196 = .ok (.iload 7, 2) := by decide +kernel
theorem gd_Wants_findCosts_198 : decode prog_12_method_7_code 198 = .ok (.invokestatic 47, 3) := by decide +kernel
theorem gd_Wants_findCosts_201 : decode prog_12_method_7_code 201 = .ok (.iastore, 1) := by decide +kernel
theorem gd_Wants_findCosts_202 : decode prog_12_method_7_code 202 = .ok (.iinc 5 1, 3) := by decide +kernel
theorem gd_Wants_findCosts_205 : decode prog_12_method_7_code 205 = .ok (.goto (-100), 3) := by decide +kernel
theorem gd_Wants_findCosts_208 : decode prog_12_method_7_code 208 = .ok (.iinc 4 1, 3) := by decide +kernel
theorem gd_Wants_findCosts_211 : decode prog_12_method_7_code 211 = .ok (.goto (-127), 3) := by decide +kernel
theorem gd_Wants_findCosts_214 : decode prog_12_method_7_code 214 = .ok (.iinc 2 (-1), 3) := by decide +kernel
theorem gd_Wants_findCosts_217 : decode prog_12_method_7_code 217 = .ok (.goto (-174), 3) := by decide +kernel
theorem gd_Wants_findCosts_220 : decode prog_12_method_7_code 220 = .ok (.return_, 1) := by decide +kernel
theorem gd_Wants_costAt_0 : decode prog_12_method_8_code 0 = .ok (.iload_n 0, 1) := by decide +kernel
theorem gd_Wants_costAt_1 : decode prog_12_method_8_code 1 = .ok (.bipush 9, 2) := by decide +kernel
theorem gd_Wants_costAt_3 : decode prog_12_method_8_code 3 = .ok (.imul, 1) := by decide +kernel
theorem gd_Wants_costAt_4 : decode prog_12_method_8_code 4 = .ok (.iload_n 1, 1) := by decide +kernel
theorem gd_Wants_costAt_5 : decode prog_12_method_8_code 5 = .ok (.iadd, 1) := by decide +kernel
theorem gd_Wants_costAt_6 : decode prog_12_method_8_code 6 = .ok (.bipush 9, 2) := by decide +kernel
theorem gd_Wants_costAt_8 : decode prog_12_method_8_code 8 = .ok (.imul, 1) := by decide +kernel
theorem gd_Wants_costAt_9 : decode prog_12_method_8_code 9 = .ok (.iload_n 2, 1) := by decide +kernel
theorem gd_Wants_costAt_10 : decode prog_12_method_8_code 10 = .ok (.iadd, 1) := by decide +kernel
theorem gd_Wants_costAt_11 : decode prog_12_method_8_code 11 = .ok (.ireturn, 1) := by decide +kernel
theorem gd_Wants_costOfRow_0 : decode prog_12_method_9_code 0 = .ok (.aload_n 0, 1) := by decide +kernel
theorem gd_Wants_costOfRow_1 : decode prog_12_method_9_code 1 = .ok (.getfield 28, 3) := by decide +kernel
theorem gd_Wants_costOfRow_4 : decode prog_12_method_9_code 4 = .ok (.getfield 84, 3) := by decide +kernel
theorem gd_Wants_costOfRow_7 : decode prog_12_method_9_code 7 = .ok (.iload_n 1, 1) := by decide +kernel
theorem gd_Wants_costOfRow_8 : decode prog_12_method_9_code 8 = .ok (.iaload, 1) := by decide +kernel
theorem gd_Wants_costOfRow_9 : decode prog_12_method_9_code 9 = .ok (.ifCond .ne 7, 3) := by decide +kernel
theorem gd_Wants_costOfRow_12 : decode prog_12_method_9_code 12 = .ok (.iload_n 3, 1) := by decide +kernel
theorem gd_Wants_costOfRow_13 : decode prog_12_method_9_code 13 = .ok (.iload_n 2, 1) := by decide +kernel
theorem gd_Wants_costOfRow_14 : decode prog_12_method_9_code 14 = .ok (.isub, 1) := by decide +kernel
theorem gd_Wants_costOfRow_15 : decode prog_12_method_9_code 15 = .ok (.ireturn, 1) := by decide +kernel
theorem gd_Wants_costOfRow_16 : decode prog_12_method_9_code 16 = .ok (.aload_n 0, 1) := by decide +kernel
theorem gd_Wants_costOfRow_17 : decode prog_12_method_9_code 17 = .ok (.getfield 25, 3) := by decide +kernel
theorem gd_Wants_costOfRow_20 : decode prog_12_method_9_code 20 = .ok (.ldc 57, 2) := by decide +kernel
theorem gd_Wants_costOfRow_22 : decode prog_12_method_9_code 22 = .ok (.invokestatic 58, 3) := by decide +kernel
theorem gd_Wants_costOfRow_25 : decode prog_12_method_9_code 25 = .ok (.aload_n 0, 1) := by decide +kernel
theorem gd_Wants_costOfRow_26 : decode prog_12_method_9_code 26 = .ok (.getfield 25, 3) := by decide +kernel
theorem gd_Wants_costOfRow_29 : decode prog_12_method_9_code 29 = .ok (.iload_n 2, 1) := by decide +kernel
theorem gd_Wants_costOfRow_30 : decode prog_12_method_9_code 30 = .ok (.iconst 0, 1) := by decide +kernel
theorem gd_Wants_costOfRow_31 : decode prog_12_method_9_code 31 = .ok (.iastore, 1) := by decide +kernel
theorem gd_Wants_costOfRow_32 : decode prog_12_method_9_code 32 = .ok (.iconst 0, 1) := by decide +kernel
theorem gd_Wants_costOfRow_33 : decode prog_12_method_9_code 33 = .ok (.istore 4, 2) := by decide +kernel
theorem gd_Wants_costOfRow_35 : decode prog_12_method_9_code 35 = .ok (.iload 4, 2) := by decide +kernel
theorem gd_Wants_costOfRow_37 : decode prog_12_method_9_code 37 = .ok (.aload_n 0, 1) := by decide +kernel
theorem gd_Wants_costOfRow_38 : decode prog_12_method_9_code 38 = .ok (.getfield 28, 3) := by decide +kernel
theorem gd_Wants_costOfRow_41 : decode prog_12_method_9_code 41 = .ok (.getfield 84, 3) := by decide +kernel
theorem gd_Wants_costOfRow_44 : decode prog_12_method_9_code 44 = .ok (.iload_n 1, 1) := by decide +kernel
theorem gd_Wants_costOfRow_45 : decode prog_12_method_9_code 45 = .ok (.iaload, 1) := by decide +kernel
theorem gd_Wants_costOfRow_46 : decode prog_12_method_9_code 46 = .ok (.if_icmp .ge 76, 3) := by decide +kernel
theorem gd_Wants_costOfRow_49 : decode prog_12_method_9_code 49 = .ok (.aload_n 0, 1) := by decide +kernel
theorem gd_Wants_costOfRow_50 : decode prog_12_method_9_code 50 = .ok (.getfield 28, 3) := by decide +kernel
theorem gd_Wants_costOfRow_53 : decode prog_12_method_9_code 53 = .ok (.iload_n 1, 1) := by decide +kernel
theorem gd_Wants_costOfRow_54 : decode prog_12_method_9_code 54 = .ok (.iload 4, 2) := by decide +kernel
theorem gd_Wants_costOfRow_56 : decode prog_12_method_9_code 56 = .ok (.invokevirtual 93, 3) := by decide +kernel
theorem gd_Wants_costOfRow_59 : decode prog_12_method_9_code 59 = .ok (.istore 5, 2) := by decide +kernel
theorem gd_Wants_costOfRow_61 : decode prog_12_method_9_code 61 = .ok (.iload 4, 2) := by decide +kernel
theorem gd_Wants_costOfRow_63 : decode prog_12_method_9_code 63 = .ok (.aload_n 0, 1) := by decide +kernel
theorem gd_Wants_costOfRow_64 : decode prog_12_method_9_code 64 = .ok (.getfield 28, 3) := by decide +kernel
theorem gd_Wants_costOfRow_67 : decode prog_12_method_9_code 67 = .ok (.getfield 84, 3) := by decide +kernel
theorem gd_Wants_costOfRow_70 : decode prog_12_method_9_code 70 = .ok (.iload_n 1, 1) := by decide +kernel
theorem gd_Wants_costOfRow_71 : decode prog_12_method_9_code 71 = .ok (.iaload, 1) := by decide +kernel
theorem gd_Wants_costOfRow_72 : decode prog_12_method_9_code 72 = .ok (.iconst 1, 1) := by decide +kernel
theorem gd_Wants_costOfRow_73 : decode prog_12_method_9_code 73 = .ok (.isub, 1) := by decide +kernel
theorem gd_Wants_costOfRow_74 : decode prog_12_method_9_code 74 = .ok (.if_icmp .ne 7, 3) := by decide +kernel
theorem gd_Wants_costOfRow_77 : decode prog_12_method_9_code 77 = .ok (.iload_n 3, 1) := by decide +kernel
theorem gd_Wants_costOfRow_78 : decode prog_12_method_9_code 78 = .ok (.goto 4, 3) := by decide +kernel
theorem gd_Wants_costOfRow_81 : decode prog_12_method_9_code 81 = .ok (.iload_n 2, 1) := by decide +kernel
theorem gd_Wants_costOfRow_82 : decode prog_12_method_9_code 82 = .ok (.istore 6, 2) := by decide +kernel
theorem gd_Wants_costOfRow_84 : decode prog_12_method_9_code 84 = .ok (.iload_n 3, 1) := by decide +kernel
theorem gd_Wants_costOfRow_85 : decode prog_12_method_9_code 85 = .ok (.istore 7, 2) := by decide +kernel
theorem gd_Wants_costOfRow_87 : decode prog_12_method_9_code 87 = .ok (.iload 7, 2) := by decide +kernel
theorem gd_Wants_costOfRow_89 : decode prog_12_method_9_code 89 = .ok (.iload 6, 2) := by decide +kernel
theorem gd_Wants_costOfRow_91 : decode prog_12_method_9_code 91 = .ok (.if_icmp .lt 25, 3) := by decide +kernel
theorem gd_Wants_costOfRow_94 : decode prog_12_method_9_code 94 = .ok (.aload_n 0, 1) := by decide +kernel
theorem gd_Wants_costOfRow_95 : decode prog_12_method_9_code 95 = .ok (.getfield 25, 3) := by decide +kernel
theorem gd_Wants_costOfRow_98 : decode prog_12_method_9_code 98 = .ok (.iload 7, 2) := by decide +kernel
theorem gd_Wants_costOfRow_100 : decode prog_12_method_9_code 100 = .ok (.aload_n 0, 1) := by decide +kernel
theorem gd_Wants_costOfRow_101 : decode prog_12_method_9_code 101 = .ok (.iload 5, 2) := by decide +kernel
theorem gd_Wants_costOfRow_103 : decode prog_12_method_9_code 103 = .ok (.iload_n 2, 1) := by decide +kernel
theorem gd_Wants_costOfRow_104 : decode prog_12_method_9_code 104 = .ok (.iload 7, 2) := by decide +kernel
theorem gd_Wants_costOfRow_106 : decode prog_12_method_9_code 106 = .ok (.invokevirtual 123, 3) := by decide +kernel
theorem gd_Wants_costOfRow_109 : decode prog_12_method_9_code 109 = .ok (.iastore, 1) := by decide +kernel
theorem gd_Wants_costOfRow_110 : decode prog_12_method_9_code 110 = .ok (.iinc 7 (-1), 3) := by decide +kernel
theorem gd_Wants_costOfRow_113 : decode prog_12_method_9_code 113 = .ok (.goto (-26), 3) := by decide +kernel
theorem gd_Wants_costOfRow_116 : decode prog_12_method_9_code 116 = .ok (.iinc 4 1, 3) := by decide +kernel
theorem gd_Wants_costOfRow_119 : decode prog_12_method_9_code 119 = .ok (.goto (-84), 3) := by decide +kernel
theorem gd_Wants_costOfRow_122 : decode prog_12_method_9_code 122 = .ok (.aload_n 0, 1) := by decide +kernel
theorem gd_Wants_costOfRow_123 : decode prog_12_method_9_code 123 = .ok (.getfield 25, 3) := by decide +kernel
theorem gd_Wants_costOfRow_126 : decode prog_12_method_9_code 126 = .ok (.iload_n 3, 1) := by decide +kernel
theorem gd_Wants_costOfRow_127 : decode prog_12_method_9_code 127 = .ok (.iaload, 1) := by decide +kernel
theorem gd_Wants_costOfRow_128 : decode prog_12_method_9_code 128 = .ok (.ireturn, 1) := by decide +kernel
theorem gd_Wants_costUpTo_0 : decode prog_12_method_10_code 0 = .ok (.aload_n 0, 1) := by decide +kernel
theorem gd_Wants_costUpTo_1 : decode prog_12_method_10_code 1 = .ok (.getfield 28, 3) := by decide +kernel
theorem gd_Wants_costUpTo_4 : decode prog_12_method_10_code 4 = .ok (.iload_n 1, 1) := by decide +kernel
theorem gd_Wants_costUpTo_5 : decode prog_12_method_10_code 5 = .ok (.invokevirtual 126, 3) := by decide +kernel
theorem gd_Wants_costUpTo_8 : decode prog_12_method_10_code 8 = .ok (.istore 4, 2) := by decide +kernel
theorem gd_Wants_costUpTo_10 : decode prog_12_method_10_code 10 = .ok (.ldc 57, 2) := by decide +kernel
theorem gd_Wants_costUpTo_12 : decode prog_12_method_10_code 12 = .ok (.istore 5, 2) := by decide +kernel
theorem gd_Wants_costUpTo_14 : decode prog_12_method_10_code 14 = .ok (.iconst 0, 1) := by decide +kernel
theorem gd_Wants_costUpTo_15 : decode prog_12_method_10_code 15 = .ok (.istore 6, 2) := by decide +kernel
theorem gd_Wants_costUpTo_17 : decode prog_12_method_10_code 17 = .ok (.iload_n 3, 1) := by decide +kernel
theorem gd_Wants_costUpTo_18 : decode prog_12_method_10_code 18 = .ok (.istore 7, 2) := by decide +kernel
theorem gd_Wants_costUpTo_20 : decode prog_12_method_10_code 20 = .ok (.iload 7, 2) := by decide +kernel
theorem gd_Wants_costUpTo_22 : decode prog_12_method_10_code 22 = .ok (.iload_n 2, 1) := by decide +kernel
theorem gd_Wants_costUpTo_23 : decode prog_12_method_10_code 23 = .ok (.if_icmp .lt 111, 3) := by decide +kernel
theorem gd_Wants_costUpTo_26 : decode prog_12_method_10_code 26 = .ok (.iload_n 3, 1) := by decide +kernel
theorem gd_Wants_costUpTo_27 : decode prog_12_method_10_code 27 = .ok (.iload 7, 2) := by decide +kernel
theorem gd_Wants_costUpTo_29 : decode prog_12_method_10_code 29 = .ok (.isub, 1) := by decide +kernel
theorem gd_Wants_costUpTo_30 : decode prog_12_method_10_code 30 = .ok (.istore 8, 2) := by decide +kernel
theorem gd_Wants_costUpTo_32 : decode prog_12_method_10_code 32 = .ok (.iload 6, 2) := by decide +kernel
theorem gd_Wants_costUpTo_34 : decode prog_12_method_10_code 34 = .ok (.iload 8, 2) := by decide +kernel
theorem gd_Wants_costUpTo_36 : decode prog_12_method_10_code 36 = .ok (.ifCond .le 26, 3) := by decide +kernel
theorem gd_Wants_costUpTo_39 : decode prog_12_method_10_code 39 = .ok (.iload 4, 2) := by decide +kernel
theorem gd_Wants_costUpTo_41 : decode prog_12_method_10_code 41 = .ok (.iconst (-1), 1) := by decide +kernel
theorem gd_Wants_costUpTo_42 : decode prog_12_method_10_code 42 = .ok (.if_icmp .ne 20, 3) := by decide +kernel
theorem gd_Wants_costUpTo_45 : decode prog_12_method_10_code 45 = .ok (.aload_n 0, 1) := by decide +kernel
theorem gd_Wants_costUpTo_46 : decode prog_12_method_10_code 46 = .ok (.getfield 36, 3) := by decide +kernel
theorem gd_Wants_costUpTo_49 : decode prog_12_method_10_code 49 = .ok (.iload_n 1, 1) := by decide +kernel
theorem gd_Wants_costUpTo_50 : decode prog_12_method_10_code 50 = .ok (.iload 7, 2) := by decide +kernel
theorem gd_Wants_costUpTo_52 : decode prog_12_method_10_code 52 = .ok (.invokevirtual 129, 3) := by decide +kernel
theorem gd_Wants_costUpTo_55 : decode prog_12_method_10_code 55 = .ok (.ifCond .eq 7, 3) := by decide +kernel
theorem gd_Wants_costUpTo_58 : decode prog_12_method_10_code 58 = .ok (.iconst 1, 1) := by decide +kernel
theorem gd_Wants_costUpTo_59 : decode prog_12_method_10_code 59 = .ok (.goto 4, 3) := by decide +kernel
theorem gd_Wants_costUpTo_62 : decode prog_12_method_10_code 62 = .ok (.iconst 0, 1) := by decide +kernel
theorem gd_Wants_costUpTo_63 : decode prog_12_method_10_code 63 = .ok (.ior, 1) := by decide +kernel
theorem gd_Wants_costUpTo_64 : decode prog_12_method_10_code 64 = .ok (.istore 6, 2) := by decide +kernel
theorem gd_Wants_costUpTo_66 : decode prog_12_method_10_code 66 = .ok (.aload_n 0, 1) := by decide +kernel
theorem gd_Wants_costUpTo_67 : decode prog_12_method_10_code 67 = .ok (.getfield 25, 3) := by decide +kernel
theorem gd_Wants_costUpTo_70 : decode prog_12_method_10_code 70 = .ok (.iload 7, 2) := by decide +kernel
theorem gd_Wants_costUpTo_72 : decode prog_12_method_10_code 72 = .ok (.iaload, 1) := by decide +kernel
theorem gd_Wants_costUpTo_73 : decode prog_12_method_10_code 73 = .ok (.iload 5, 2) := by decide +kernel
theorem gd_Wants_costUpTo_75 : decode prog_12_method_10_code 75 = .ok (.if_icmp .ge 53, 3) := by decide +kernel
theorem gd_Wants_costUpTo_78 : decode prog_12_method_10_code 78 = .ok (.iload 4, 2) := by decide +kernel
theorem gd_Wants_costUpTo_80 : decode prog_12_method_10_code 80 = .ok (.iconst (-1), 1) := by decide +kernel
theorem gd_Wants_costUpTo_81 : decode prog_12_method_10_code 81 = .ok (.if_icmp .eq 19, 3) := by decide +kernel
theorem gd_Wants_costUpTo_84 : decode prog_12_method_10_code 84 = .ok (.aload_n 0, 1) := by decide +kernel
theorem gd_Wants_costUpTo_85 : decode prog_12_method_10_code 85 = .ok (.getfield 22, 3) := by decide +kernel
theorem gd_Wants_costUpTo_88 : decode prog_12_method_10_code 88 = .ok (.iload 4, 2) := by decide +kernel
theorem gd_Wants_costUpTo_90 : decode prog_12_method_10_code 90 = .ok (.iload 7, 2) := by decide +kernel
theorem gd_Wants_costUpTo_92 : decode prog_12_method_10_code 92 = .ok (.iload_n 3, 1) := by decide +kernel
theorem gd_Wants_costUpTo_93 : decode prog_12_method_10_code 93 = .ok (.invokestatic 113, 3) := by decide +kernel
theorem gd_Wants_costUpTo_96 : decode prog_12_method_10_code 96 = .ok (.iaload, 1) := by decide +kernel
theorem gd_Wants_costUpTo_97 : decode prog_12_method_10_code 97 = .ok (.goto 12, 3) := by decide +kernel
theorem gd_Wants_costUpTo_100 : decode prog_12_method_10_code 100 = .ok (.iload 8, 2) := by decide +kernel
theorem gd_Wants_costUpTo_102 : decode prog_12_method_10_code 102 = .ok (.iconst 1, 1) := by decide +kernel
theorem gd_Wants_costUpTo_103 : decode prog_12_method_10_code 103 = .ok (.invokestatic 133, 3) := by decide +kernel
theorem gd_Wants_costUpTo_106 : decode prog_12_method_10_code 106 = .ok (.iload 6, 2) := by decide +kernel
theorem gd_Wants_costUpTo_108 : decode prog_12_method_10_code 108 = .ok (.isub, 1) := by decide +kernel
theorem gd_Wants_costUpTo_109 : decode prog_12_method_10_code 109 = .ok (.istore 9, 2) := by decide +kernel
theorem gd_Wants_costUpTo_111 : decode prog_12_method_10_code 111 = .ok (.iload 5, 2) := by decide +kernel
theorem gd_Wants_costUpTo_113 : decode prog_12_method_10_code 113 = .ok (.aload_n 0, 1) := by decide +kernel
theorem gd_Wants_costUpTo_114 : decode prog_12_method_10_code 114 = .ok (.getfield 25, 3) := by decide +kernel
theorem gd_Wants_costUpTo_117 : decode prog_12_method_10_code 117 = .ok (.iload 7, 2) := by decide +kernel
theorem gd_Wants_costUpTo_119 : decode prog_12_method_10_code 119 = .ok (.iaload, 1) := by decide +kernel
theorem gd_Wants_costUpTo_120 : decode prog_12_method_10_code 120 = .ok (.iload 9, 2) := by decide +kernel
theorem gd_Wants_costUpTo_122 : decode prog_12_method_10_code 122 = .ok (.iadd, 1) := by decide +kernel
theorem gd_Wants_costUpTo_123 : decode prog_12_method_10_code 123 = .ok (.invokestatic 47, 3) := by decide +kernel
theorem gd_Wants_costUpTo_126 : decode prog_12_method_10_code 126 = .ok (.istore 5, 2) := by decide +kernel
theorem gd_Wants_costUpTo_128 : decode prog_12_method_10_code 128 = .ok (.iinc 7 (-1), 3) := by decide +kernel
theorem gd_Wants_costUpTo_131 : decode prog_12_method_10_code 131 = .ok (.goto (-111), 3) := by decide +kernel
theorem gd_Wants_costUpTo_134 : decode prog_12_method_10_code 134 = .ok (.iload 5, 2) := by decide +kernel
theorem gd_Wants_costUpTo_136 : decode prog_12_method_10_code 136 = .ok (.ireturn, 1) := by decide +kernel
theorem gd_House_name_0 : decode prog_1_method_8_code 0 = .ok (.aload_n 0, 1) := by decide +kernel
theorem gd_House_name_1 : decode prog_1_method_8_code 1 = .ok (.getfield 129, 3) := by decide +kernel
theorem gd_House_name_4 : decode prog_1_method_8_code 4 = .ok (.ifCond .eq 15, 3) := by decide +kernel
theorem gd_House_name_7 : decode prog_1_method_8_code 7 = .ok (.aload_n 0, 1) := by decide +kernel
theorem gd_House_name_8 : decode prog_1_method_8_code 8 = .ok (.iload_n 1, 1) := by decide +kernel
theorem gd_House_name_9 : decode prog_1_method_8_code 9 = .ok (.invokevirtual 160, 3) := by decide +kernel
theorem gd_House_name_12 : decode prog_1_method_8_code 12 = .ok (.ifCond .ne 7, 3) := by decide +kernel
theorem gd_House_name_15 : decode prog_1_method_8_code 15 = .ok (.sipush (-1001), 3) := by decide +kernel
theorem gd_House_name_18 : decode prog_1_method_8_code 18 = .ok (.ireturn, 1) := by decide +kernel
theorem gd_House_name_19 : decode prog_1_method_8_code 19 = .ok (.iload_n 2, 1) := by decide +kernel
theorem gd_House_name_20 : decode prog_1_method_8_code 20 = .ok (.ifCond .lt 9, 3) := by decide +kernel
theorem gd_House_name_23 : decode prog_1_method_8_code 23 = .ok (.iload_n 2, 1) := by decide +kernel
theorem gd_House_name_24 : decode prog_1_method_8_code 24 = .ok (.bipush 7, 2) := by decide +kernel
theorem gd_House_name_26 : decode prog_1_method_8_code 26 = .ok (.if_icmp .le 7, 3) := by decide +kernel
theorem gd_House_name_29 : decode prog_1_method_8_code 29 = .ok (.sipush (-1002), 3) := by decide +kernel
theorem gd_House_name_32 : decode prog_1_method_8_code 32 = .ok (.ireturn, 1) := by decide +kernel
theorem gd_House_name_33 : decode prog_1_method_8_code 33 = .ok (.aload_n 0, 1) := by decide +kernel
theorem gd_House_name_34 : decode prog_1_method_8_code 34 = .ok (.getfield 129, 3) := by decide +kernel
theorem gd_House_name_37 : decode prog_1_method_8_code 37 = .ok (.ifCond .ne 7, 3) := by decide +kernel
theorem gd_House_name_40 : decode prog_1_method_8_code 40 = .ok (.sipush (-1003), 3) := by decide +kernel
theorem gd_House_name_43 : decode prog_1_method_8_code 43 = .ok (.ireturn, 1) := by decide +kernel
theorem gd_House_name_44 : decode prog_1_method_8_code 44 = .ok (.iload_n 2, 1) := by decide +kernel
theorem gd_House_name_45 : decode prog_1_method_8_code 45 = .ok (.tableswitch 139 0 6 #[43, 53, 63, 75, 87, 99, 111], 43) := by decide +kernel
theorem gd_House_name_88 : decode prog_1_method_8_code 88 = .ok (.aload_n 0, 1) := by decide +kernel
theorem gd_House_name_89 : decode prog_1_method_8_code 89 = .ok (.getfield 28, 3) := by decide +kernel
theorem gd_House_name_92 : decode prog_1_method_8_code 92 = .ok (.getfield 163, 3) := by decide +kernel
theorem gd_House_name_95 : decode prog_1_method_8_code 95 = .ok (.iload_n 1, 1) := by decide +kernel
theorem gd_House_name_96 : decode prog_1_method_8_code 96 = .ok (.iaload, 1) := by decide +kernel
theorem gd_House_name_97 : decode prog_1_method_8_code 97 = .ok (.ireturn, 1) := by decide +kernel
theorem gd_House_name_98 : decode prog_1_method_8_code 98 = .ok (.aload_n 0, 1) := by decide +kernel
theorem gd_House_name_99 : decode prog_1_method_8_code 99 = .ok (.getfield 28, 3) := by decide +kernel
theorem gd_House_name_102 : decode prog_1_method_8_code 102 = .ok (.getfield 167, 3) := by decide +kernel
theorem gd_House_name_105 : decode prog_1_method_8_code 105 = .ok (.iload_n 1, 1) := by decide +kernel
theorem gd_House_name_106 : decode prog_1_method_8_code 106 = .ok (.iaload, 1) := by decide +kernel
theorem gd_House_name_107 : decode prog_1_method_8_code 107 = .ok (.ireturn, 1) := by decide +kernel
theorem gd_House_name_108 : decode prog_1_method_8_code 108 = .ok (.aload_n 0, 1) := by decide +kernel
theorem gd_House_name_109 : decode prog_1_method_8_code 109 = .ok (.getfield 37, 3) := by decide +kernel
theorem gd_House_name_112 : decode prog_1_method_8_code 112 = .ok (.getfield 170, 3) := by decide +kernel
theorem gd_House_name_115 : decode prog_1_method_8_code 115 = .ok (.iload_n 1, 1) := by decide +kernel
theorem gd_House_name_116 : decode prog_1_method_8_code 116 = .ok (.ishr, 1) := by decide +kernel
theorem gd_House_name_117 : decode prog_1_method_8_code 117 = .ok (.iconst 1, 1) := by decide +kernel
theorem gd_House_name_118 : decode prog_1_method_8_code 118 = .ok (.iand, 1) := by decide +kernel
theorem gd_House_name_119 : decode prog_1_method_8_code 119 = .ok (.ireturn, 1) := by decide +kernel
theorem gd_House_name_120 : decode prog_1_method_8_code 120 = .ok (.aload_n 0, 1) := by decide +kernel
theorem gd_House_name_121 : decode prog_1_method_8_code 121 = .ok (.getfield 37, 3) := by decide +kernel
theorem gd_House_name_124 : decode prog_1_method_8_code 124 = .ok (.getfield 173, 3) := by decide +kernel
theorem gd_House_name_127 : decode prog_1_method_8_code 127 = .ok (.iload_n 1, 1) := by decide +kernel
theorem gd_House_name_128 : decode prog_1_method_8_code 128 = .ok (.ishr, 1) := by decide +kernel
theorem gd_House_name_129 : decode prog_1_method_8_code 129 = .ok (.iconst 1, 1) := by decide +kernel
theorem gd_House_name_130 : decode prog_1_method_8_code 130 = .ok (.iand, 1) := by decide +kernel
theorem gd_House_name_131 : decode prog_1_method_8_code 131 = .ok (.ireturn, 1) := by decide +kernel
theorem gd_House_name_132 : decode prog_1_method_8_code 132 = .ok (.aload_n 0, 1) := by decide +kernel
theorem gd_House_name_133 : decode prog_1_method_8_code 133 = .ok (.getfield 37, 3) := by decide +kernel
theorem gd_House_name_136 : decode prog_1_method_8_code 136 = .ok (.getfield 176, 3) := by decide +kernel
theorem gd_House_name_139 : decode prog_1_method_8_code 139 = .ok (.iload_n 1, 1) := by decide +kernel
theorem gd_House_name_140 : decode prog_1_method_8_code 140 = .ok (.ishr, 1) := by decide +kernel
theorem gd_House_name_141 : decode prog_1_method_8_code 141 = .ok (.iconst 1, 1) := by decide +kernel
theorem gd_House_name_142 : decode prog_1_method_8_code 142 = .ok (.iand, 1) := by decide +kernel
theorem gd_House_name_143 : decode prog_1_method_8_code 143 = .ok (.ireturn, 1) := by decide +kernel
theorem gd_House_name_144 : decode prog_1_method_8_code 144 = .ok (.aload_n 0, 1) := by decide +kernel
theorem gd_House_name_145 : decode prog_1_method_8_code 145 = .ok (.getfield 37, 3) := by decide +kernel
theorem gd_House_name_148 : decode prog_1_method_8_code 148 = .ok (.getfield 179, 3) := by decide +kernel
theorem gd_House_name_151 : decode prog_1_method_8_code 151 = .ok (.iload_n 1, 1) := by decide +kernel
theorem gd_House_name_152 : decode prog_1_method_8_code 152 = .ok (.ishr, 1) := by decide +kernel
theorem gd_House_name_153 : decode prog_1_method_8_code 153 = .ok (.iconst 1, 1) := by decide +kernel
theorem gd_House_name_154 : decode prog_1_method_8_code 154 = .ok (.iand, 1) := by decide +kernel
theorem gd_House_name_155 : decode prog_1_method_8_code 155 = .ok (.ireturn, 1) := by decide +kernel
theorem gd_House_name_156 : decode prog_1_method_8_code 156 = .ok (.aload_n 0, 1) := by decide +kernel
theorem gd_House_name_157 : decode prog_1_method_8_code 157 = .ok (.getfield 37, 3) := by decide +kernel
theorem gd_House_name_160 : decode prog_1_method_8_code 160 = .ok (.getfield 182, 3) := by decide +kernel
theorem gd_House_name_163 : decode prog_1_method_8_code 163 = .ok (.iload_n 1, 1) := by decide +kernel
theorem gd_House_name_164 : decode prog_1_method_8_code 164 = .ok (.iaload, 1) := by decide +kernel
theorem gd_House_name_165 : decode prog_1_method_8_code 165 = .ok (.ldc 185, 2) := by decide +kernel
theorem gd_House_name_167 : decode prog_1_method_8_code 167 = .ok (.if_icmp .ge 15, 3) := by decide +kernel
theorem gd_House_name_170 : decode prog_1_method_8_code 170 = .ok (.aload_n 0, 1) := by decide +kernel
theorem gd_House_name_171 : decode prog_1_method_8_code 171 = .ok (.getfield 37, 3) := by decide +kernel
theorem gd_House_name_174 : decode prog_1_method_8_code 174 = .ok (.getfield 182, 3) := by decide +kernel
theorem gd_House_name_177 : decode prog_1_method_8_code 177 = .ok (.iload_n 1, 1) := by decide +kernel
theorem gd_House_name_178 : decode prog_1_method_8_code 178 = .ok (.iaload, 1) := by decide +kernel
theorem gd_House_name_179 : decode prog_1_method_8_code 179 = .ok (.goto 4, 3) := by decide +kernel
theorem gd_House_name_182 : decode prog_1_method_8_code 182 = .ok (.iconst (-1), 1) := by decide +kernel
theorem gd_House_name_183 : decode prog_1_method_8_code 183 = .ok (.ireturn, 1) := by decide +kernel
theorem gd_House_name_184 : decode prog_1_method_8_code 184 = .ok (.aload_n 0, 1) := by decide +kernel
theorem gd_House_name_185 : decode prog_1_method_8_code 185 = .ok (.getfield 37, 3) := by decide +kernel
theorem gd_House_name_188 : decode prog_1_method_8_code 188 = .ok (.getfield 186, 3) := by decide +kernel
theorem gd_House_name_191 : decode prog_1_method_8_code 191 = .ok (.iload_n 1, 1) := by decide +kernel
theorem gd_House_name_192 : decode prog_1_method_8_code 192 = .ok (.iaload, 1) := by decide +kernel
theorem gd_House_name_193 : decode prog_1_method_8_code 193 = .ok (.iload_n 1, 1) := by decide +kernel
theorem gd_House_name_194 : decode prog_1_method_8_code 194 = .ok (.ishr, 1) := by decide +kernel
theorem gd_House_name_195 : decode prog_1_method_8_code 195 = .ok (.iconst 1, 1) := by decide +kernel
theorem gd_House_name_196 : decode prog_1_method_8_code 196 = .ok (.iand, 1) := by decide +kernel
theorem gd_House_name_197 : decode prog_1_method_8_code 197 = .ok (.ireturn, 1) := by decide +kernel
theorem gd_Law_areTreesWell_0 : decode method_8_code 0 = .ok (.aload_n 0, 1) := by decide +kernel
theorem gd_Law_areTreesWell_1 : decode method_8_code 1 = .ok (.iconst 0, 1) := by decide +kernel
theorem gd_Law_areTreesWell_2 : decode method_8_code 2 = .ok (.iconst 0, 1) := by decide +kernel
theorem gd_Law_areTreesWell_3 : decode method_8_code 3 = .ok (.iload_n 1, 1) := by decide +kernel
theorem gd_Law_areTreesWell_4 : decode method_8_code 4 = .ok (.invokevirtual 44, 3) := by decide +kernel
theorem gd_Law_areTreesWell_7 : decode method_8_code 7 = .ok (.lstore 4, 2) := by decide +kernel
theorem gd_Law_areTreesWell_9 : decode method_8_code 9 = .ok (.lload 4, 2) := by decide +kernel
theorem gd_Law_areTreesWell_11 : decode method_8_code 11 = .ok (.lconst 0, 1) := by decide +kernel
theorem gd_Law_areTreesWell_12 : decode method_8_code 12 = .ok (.lcmp, 1) := by decide +kernel
theorem gd_Law_areTreesWell_13 : decode method_8_code 13 = .ok (.ifCond .ne 27, 3) := by decide +kernel
theorem gd_Law_areTreesWell_16 : decode method_8_code 16 = .ok (.aload_n 0, 1) := by decide +kernel
theorem gd_Law_areTreesWell_17 : decode method_8_code 17 = .ok (.lconst 0, 1) := by decide +kernel
theorem gd_Law_areTreesWell_18 : decode method_8_code 18 = .ok (.invokevirtual 54, 3) := by decide +kernel
theorem gd_Law_areTreesWell_21 : decode method_8_code 21 = .ok (.iconst (-1), 1) := by decide +kernel
theorem gd_Law_areTreesWell_22 : decode method_8_code 22 = .ok (.if_icmp .ne 16, 3) := by decide +kernel
theorem gd_Law_areTreesWell_25 : decode method_8_code 25 = .ok (.aload_n 0, 1) := by decide +kernel
theorem gd_Law_areTreesWell_26 : decode method_8_code 26 = .ok (.bipush 6, 2) := by decide +kernel
theorem gd_Law_areTreesWell_28 : decode method_8_code 28 = .ok (.invokevirtual 58, 3) := by decide +kernel
theorem gd_Law_areTreesWell_31 : decode method_8_code 31 = .ok (.ifCond .ne 7, 3) := by decide +kernel
theorem gd_Law_areTreesWell_34 : decode method_8_code 34 = .ok (.iconst 1, 1) := by decide +kernel
theorem gd_Law_areTreesWell_35 : decode method_8_code 35 = .ok (.goto 4, 3) := by decide +kernel
theorem gd_Law_areTreesWell_38 : decode method_8_code 38 = .ok (.iconst 0, 1) := by decide +kernel
theorem gd_Law_areTreesWell_39 : decode method_8_code 39 = .ok (.ireturn, 1) := by decide +kernel
theorem gd_Law_areTreesWell_40 : decode method_8_code 40 = .ok (.aload_n 0, 1) := by decide +kernel
theorem gd_Law_areTreesWell_41 : decode method_8_code 41 = .ok (.lconst 0, 1) := by decide +kernel
theorem gd_Law_areTreesWell_42 : decode method_8_code 42 = .ok (.iload_n 1, 1) := by decide +kernel
theorem gd_Law_areTreesWell_43 : decode method_8_code 43 = .ok (.aload_n 2, 1) := by decide +kernel
theorem gd_Law_areTreesWell_44 : decode method_8_code 44 = .ok (.invokestatic 72, 3) := by decide +kernel
theorem gd_Law_areTreesWell_47 : decode method_8_code 47 = .ok (.istore 6, 2) := by decide +kernel
theorem gd_Law_areTreesWell_49 : decode method_8_code 49 = .ok (.iload 6, 2) := by decide +kernel
theorem gd_Law_areTreesWell_51 : decode method_8_code 51 = .ok (.ifCond .eq 116, 3) := by decide +kernel
theorem gd_Law_areTreesWell_54 : decode method_8_code 54 = .ok (.lload 4, 2) := by decide +kernel
theorem gd_Law_areTreesWell_56 : decode method_8_code 56 = .ok (.lconst 1, 1) := by decide +kernel
theorem gd_Law_areTreesWell_57 : decode method_8_code 57 = .ok (.lcmp, 1) := by decide +kernel
theorem gd_Law_areTreesWell_58 : decode method_8_code 58 = .ok (.ifCond .le 109, 3) := by decide +kernel
theorem gd_Law_areTreesWell_61 : decode method_8_code 61 = .ok (.aload_n 0, 1) := by decide +kernel
theorem gd_Law_areTreesWell_62 : decode method_8_code 62 = .ok (.lload 4, 2) := by decide +kernel
theorem gd_Law_areTreesWell_64 : decode method_8_code 64 = .ok (.lconst 1, 1) := by decide +kernel
theorem gd_Law_areTreesWell_65 : decode method_8_code 65 = .ok (.lsub, 1) := by decide +kernel
theorem gd_Law_areTreesWell_66 : decode method_8_code 66 = .ok (.iload_n 1, 1) := by decide +kernel
theorem gd_Law_areTreesWell_67 : decode method_8_code 67 = .ok (.aload_n 3, 1) := by decide +kernel
theorem gd_Law_areTreesWell_68 : decode method_8_code 68 = .ok (.invokestatic 72, 3) := by decide +kernel
theorem gd_Law_areTreesWell_71 : decode method_8_code 71 = .ok (.istore 6, 2) := by decide +kernel
theorem gd_Law_areTreesWell_73 : decode method_8_code 73 = .ok (.aload_n 2, 1) := by decide +kernel
theorem gd_Law_areTreesWell_74 : decode method_8_code 74 = .ok (.iconst 0, 1) := by decide +kernel
theorem gd_Law_areTreesWell_75 : decode method_8_code 75 = .ok (.iaload, 1) := by decide +kernel
theorem gd_Law_areTreesWell_76 : decode method_8_code 76 = .ok (.aload_n 3, 1) := by decide +kernel
theorem gd_Law_areTreesWell_77 : decode method_8_code 77 = .ok (.iconst 0, 1) := by decide +kernel
theorem gd_Law_areTreesWell_78 : decode method_8_code 78 = .ok (.iaload, 1) := by decide +kernel
theorem gd_Law_areTreesWell_79 : decode method_8_code 79 = .ok (.if_icmp .ne 17, 3) := by decide +kernel
theorem gd_Law_areTreesWell_82 : decode method_8_code 82 = .ok (.aload_n 2, 1) := by decide +kernel
theorem gd_Law_areTreesWell_83 : decode method_8_code 83 = .ok (.iconst 0, 1) := by decide +kernel
theorem gd_Law_areTreesWell_84 : decode method_8_code 84 = .ok (.iaload, 1) := by decide +kernel
theorem gd_Law_areTreesWell_85 : decode method_8_code 85 = .ok (.ifCond .eq 11, 3) := by decide +kernel
theorem gd_Law_areTreesWell_88 : decode method_8_code 88 = .ok (.aload_n 2, 1) := by decide +kernel
theorem gd_Law_areTreesWell_89 : decode method_8_code 89 = .ok (.iconst 0, 1) := by decide +kernel
theorem gd_Law_areTreesWell_90 : decode method_8_code 90 = .ok (.iaload, 1) := by decide +kernel
theorem gd_Law_areTreesWell_91 : decode method_8_code 91 = .ok (.bipush 63, 2) := by decide +kernel
theorem gd_Law_areTreesWell_93 : decode method_8_code 93 = .ok (.if_icmp .le 7, 3) := by decide +kernel
theorem gd_Law_areTreesWell_96 : decode method_8_code 96 = .ok (.iconst 1, 1) := by decide +kernel
theorem gd_Law_areTreesWell_97 : decode method_8_code 97 = .ok (.goto 4, 3) := by decide +kernel
theorem gd_Law_areTreesWell_100 : decode method_8_code 100 = .ok (.iconst 0, 1) := by decide +kernel
theorem gd_Law_areTreesWell_101 : decode method_8_code 101 = .ok (.istore 7, 2) := by decide +kernel
theorem gd_Law_areTreesWell_103 : decode method_8_code 103 = .ok (.iconst 1, 1) := by decide +kernel
theorem gd_Law_areTreesWell_104 : decode method_8_code 104 = .ok (.istore 8, 2) := by decide +kernel
theorem gd_Law_areTreesWell_106 : decode method_8_code 106 = .ok (.iload 8, 2) := by decide +kernel
theorem gd_Law_areTreesWell_108 : decode method_8_code 108 = .ok (.aload_n 2, 1) := by decide +kernel
theorem gd_Law_areTreesWell_109 : decode method_8_code 109 = .ok (.iconst 0, 1) := by decide +kernel
theorem gd_Law_areTreesWell_110 : decode method_8_code 110 = .ok (.iaload, 1) := by decide +kernel
theorem gd_Law_areTreesWell_111 : decode method_8_code 111 = .ok (.if_icmp .gt 39, 3) := by decide +kernel
theorem gd_Law_areTreesWell_114 : decode method_8_code 114 = .ok (.iload 8, 2) := by decide +kernel
theorem gd_Law_areTreesWell_116 : decode method_8_code 116 = .ok (.bipush 64, 2) := by decide +kernel
theorem gd_Law_areTreesWell_118 : decode method_8_code 118 = .ok (.if_icmp .ge 32, 3) := by decide +kernel
theorem gd_Law_areTreesWell_121 : decode method_8_code 121 = .ok (.iload 7, 2) := by decide +kernel
theorem gd_Law_areTreesWell_123 : decode method_8_code 123 = .ok (.ifCond .ne 14, 3) := by decide +kernel
theorem gd_Law_areTreesWell_126 : decode method_8_code 126 = .ok (.aload_n 2, 1) := by decide +kernel
theorem gd_Law_areTreesWell_127 : decode method_8_code 127 = .ok (.iload 8, 2) := by decide +kernel
theorem gd_Law_areTreesWell_129 : decode method_8_code 129 = .ok (.iaload, 1) := by decide +kernel
theorem gd_Law_areTreesWell_130 : decode method_8_code 130 = .ok (.aload_n 3, 1) := by decide +kernel
theorem gd_Law_areTreesWell_131 : decode method_8_code 131 = .ok (.iload 8, 2) := by decide +kernel
theorem gd_Law_areTreesWell_133 : decode method_8_code 133 = .ok (.iaload, 1) := by decide +kernel
theorem gd_Law_areTreesWell_134 : decode method_8_code 134 = .ok (.if_icmp .eq 7, 3) := by decide +kernel
theorem gd_Law_areTreesWell_137 : decode method_8_code 137 = .ok (.iconst 1, 1) := by decide +kernel
theorem gd_Law_areTreesWell_138 : decode method_8_code 138 = .ok (.goto 4, 3) := by decide +kernel
theorem gd_Law_areTreesWell_141 : decode method_8_code 141 = .ok (.iconst 0, 1) := by decide +kernel
theorem gd_Law_areTreesWell_142 : decode method_8_code 142 = .ok (.istore 7, 2) := by decide +kernel
theorem gd_Law_areTreesWell_144 : decode method_8_code 144 = .ok (.iinc 8 1, 3) := by decide +kernel
theorem gd_Law_areTreesWell_147 : decode method_8_code 147 = .ok (.goto (-41), 3) := by decide +kernel
theorem gd_Law_areTreesWell_150 : decode method_8_code 150 = .ok (.iload 6, 2) := by decide +kernel
theorem gd_Law_areTreesWell_152 : decode method_8_code 152 = .ok (.ifCond .eq 12, 3) := by decide +kernel
theorem gd_Law_areTreesWell_155 : decode method_8_code 155 = .ok (.iload 7, 2) := by decide +kernel
theorem gd_Law_areTreesWell_157 : decode method_8_code 157 = .ok (.ifCond .eq 7, 3) := by decide +kernel
theorem gd_Law_areTreesWell_160 : decode method_8_code 160 = .ok (.iconst 1, 1) := by decide +kernel
theorem gd_Law_areTreesWell_161 : decode method_8_code 161 = .ok (.goto 4, 3) := by decide +kernel
theorem gd_Law_areTreesWell_164 : decode method_8_code 164 = .ok (.iconst 0, 1) := by decide +kernel
theorem gd_Law_areTreesWell_165 : decode method_8_code 165 = .ok (.istore 6, 2) := by decide +kernel
theorem gd_Law_areTreesWell_167 : decode method_8_code 167 = .ok (.iload 6, 2) := by decide +kernel
theorem gd_Law_areTreesWell_169 : decode method_8_code 169 = .ok (.ifCond .eq 24, 3) := by decide +kernel
theorem gd_Law_areTreesWell_172 : decode method_8_code 172 = .ok (.lload 4, 2) := by decide +kernel
theorem gd_Law_areTreesWell_174 : decode method_8_code 174 = .ok (.lconst 0, 1) := by decide +kernel
theorem gd_Law_areTreesWell_175 : decode method_8_code 175 = .ok (.lcmp, 1) := by decide +kernel
theorem gd_Law_areTreesWell_176 : decode method_8_code 176 = .ok (.ifCond .lt 13, 3) := by decide +kernel
theorem gd_Law_areTreesWell_179 : decode method_8_code 179 = .ok (.aload_n 0, 1) := by decide +kernel
theorem gd_Law_areTreesWell_180 : decode method_8_code 180 = .ok (.lload 4, 2) := by decide +kernel
theorem gd_Law_areTreesWell_182 : decode method_8_code 182 = .ok (.invokevirtual 54, 3) := by decide +kernel
theorem gd_Law_areTreesWell_185 : decode method_8_code 185 = .ok (.iconst (-1), 1) := by decide +kernel
theorem gd_Law_areTreesWell_186 : decode method_8_code 186 = .ok (.if_icmp .ne 7, 3) := by decide +kernel
theorem gd_Law_areTreesWell_189 : decode method_8_code 189 = .ok (.iconst 1, 1) := by decide +kernel
theorem gd_Law_areTreesWell_190 : decode method_8_code 190 = .ok (.goto 4, 3) := by decide +kernel
theorem gd_Law_areTreesWell_193 : decode method_8_code 193 = .ok (.iconst 0, 1) := by decide +kernel
theorem gd_Law_areTreesWell_194 : decode method_8_code 194 = .ok (.ireturn, 1) := by decide +kernel
theorem gd_House_pick_0 : decode prog_1_method_27_code 0 = .ok (.lload_n 1, 1) := by decide +kernel
theorem gd_House_pick_1 : decode prog_1_method_27_code 1 = .ok (.lconst 0, 1) := by decide +kernel
theorem gd_House_pick_2 : decode prog_1_method_27_code 2 = .ok (.lcmp, 1) := by decide +kernel
theorem gd_House_pick_3 : decode prog_1_method_27_code 3 = .ok (.ifCond .lt 11, 3) := by decide +kernel
theorem gd_House_pick_6 : decode prog_1_method_27_code 6 = .ok (.lload_n 1, 1) := by decide +kernel
theorem gd_House_pick_7 : decode prog_1_method_27_code 7 = .ok (.ldc2_w 257, 3) := by decide +kernel
theorem gd_House_pick_10 : decode prog_1_method_27_code 10 = .ok (.lcmp, 1) := by decide +kernel
theorem gd_House_pick_11 : decode prog_1_method_27_code 11 = .ok (.ifCond .lt 7, 3) := by decide +kernel
theorem gd_House_pick_14 : decode prog_1_method_27_code 14 = .ok (.sipush (-1002), 3) := by decide +kernel
theorem gd_House_pick_17 : decode prog_1_method_27_code 17 = .ok (.ireturn, 1) := by decide +kernel
theorem gd_House_pick_18 : decode prog_1_method_27_code 18 = .ok (.aload_n 0, 1) := by decide +kernel
theorem gd_House_pick_19 : decode prog_1_method_27_code 19 = .ok (.getfield 129, 3) := by decide +kernel
theorem gd_House_pick_22 : decode prog_1_method_27_code 22 = .ok (.ifCond .ne 7, 3) := by decide +kernel
theorem gd_House_pick_25 : decode prog_1_method_27_code 25 = .ok (.sipush (-1003), 3) := by decide +kernel
theorem gd_House_pick_28 : decode prog_1_method_27_code 28 = .ok (.ireturn, 1) := by decide +kernel
theorem gd_House_pick_29 : decode prog_1_method_27_code 29 = .ok (.aload_n 0, 1) := by decide +kernel
theorem gd_House_pick_30 : decode prog_1_method_27_code 30 = .ok (.getfield 55, 3) := by decide +kernel
theorem gd_House_pick_33 : decode prog_1_method_27_code 33 = .ok (.invokevirtual 224, 3) := by decide +kernel
theorem gd_House_pick_36 : decode prog_1_method_27_code 36 = .ok (.lload_n 1, 1) := by decide +kernel
theorem gd_House_pick_37 : decode prog_1_method_27_code 37 = .ok (.aload_n 0, 1) := by decide +kernel
theorem gd_House_pick_38 : decode prog_1_method_27_code 38 = .ok (.getfield 71, 3) := by decide +kernel
theorem gd_House_pick_41 : decode prog_1_method_27_code 41 = .ok (.iconst 0, 1) := by decide +kernel
theorem gd_House_pick_42 : decode prog_1_method_27_code 42 = .ok (.iconst 0, 1) := by decide +kernel
theorem gd_House_pick_43 : decode prog_1_method_27_code 43 = .ok (.aload_n 0, 1) := by decide +kernel
theorem gd_House_pick_44 : decode prog_1_method_27_code 44 = .ok (.getfield 46, 3) := by decide +kernel
theorem gd_House_pick_47 : decode prog_1_method_27_code 47 = .ok (.getfield 133, 3) := by decide +kernel
theorem gd_House_pick_50 : decode prog_1_method_27_code 50 = .ok (.invokevirtual 253, 3) := by decide +kernel
theorem gd_House_pick_53 : decode prog_1_method_27_code 53 = .ok (.lcmp, 1) := by decide +kernel
theorem gd_House_pick_54 : decode prog_1_method_27_code 54 = .ok (.ifCond .ge 14, 3) := by decide +kernel
theorem gd_House_pick_57 : decode prog_1_method_27_code 57 = .ok (.aload_n 0, 1) := by decide +kernel
theorem gd_House_pick_58 : decode prog_1_method_27_code 58 = .ok (.getfield 80, 3) := by decide +kernel
theorem gd_House_pick_61 : decode prog_1_method_27_code 61 = .ok (.lload_n 1, 1) := by decide +kernel
theorem gd_House_pick_62 : decode prog_1_method_27_code 62 = .ok (.invokevirtual 261, 3) := by decide +kernel
theorem gd_House_pick_65 : decode prog_1_method_27_code 65 = .ok (.goto 4, 3) := by decide +kernel
theorem gd_House_pick_68 : decode prog_1_method_27_code 68 = .ok (.iconst (-1), 1) := by decide +kernel
theorem gd_House_pick_69 : decode prog_1_method_27_code 69 = .ok (.ireturn, 1) := by decide +kernel
theorem gd_Picker_choose_0 : decode prog_7_method_2_code 0 = .ok (.aload_n 0, 1) := by decide +kernel
theorem gd_Picker_choose_1 : decode prog_7_method_2_code 1 = .ok (.iconst 0, 1) := by decide +kernel
theorem gd_Picker_choose_2 : decode prog_7_method_2_code 2 = .ok (.putfield 55, 3) := by decide +kernel
theorem gd_Picker_choose_5 : decode prog_7_method_2_code 5 = .ok (.aload_n 0, 1) := by decide +kernel
theorem gd_Picker_choose_6 : decode prog_7_method_2_code 6 = .ok (.iconst 0, 1) := by decide +kernel
theorem gd_Picker_choose_7 : decode prog_7_method_2_code 7 = .ok (.putfield 59, 3) := by decide +kernel
theorem gd_Picker_choose_10 : decode prog_7_method_2_code 10 = .ok (.aload_n 0, 1) := by decide +kernel
theorem gd_Picker_choose_11 : decode prog_7_method_2_code 11 = .ok (.iconst 0, 1) := by decide +kernel
theorem gd_Picker_choose_12 : decode prog_7_method_2_code 12 = .ok (.iconst 0, 1) := by decide +kernel
theorem gd_Picker_choose_13 : decode prog_7_method_2_code 13 = .ok (.aload_n 0, 1) := by decide +kernel
theorem gd_Picker_choose_14 : decode prog_7_method_2_code 14 = .ok (.getfield 47, 3) := by decide +kernel
theorem gd_Picker_choose_17 : decode prog_7_method_2_code 17 = .ok (.getfield 62, 3) := by decide +kernel
theorem gd_Picker_choose_20 : decode prog_7_method_2_code 20 = .ok (.iconst 0, 1) := by decide +kernel
theorem gd_Picker_choose_21 : decode prog_7_method_2_code 21 = .ok (.iconst 1, 1) := by decide +kernel
theorem gd_Picker_choose_22 : decode prog_7_method_2_code 22 = .ok (.lload_n 1, 1) := by decide +kernel
theorem gd_Picker_choose_23 : decode prog_7_method_2_code 23 = .ok (.invokevirtual 67, 3) := by decide +kernel
theorem gd_Picker_choose_26 : decode prog_7_method_2_code 26 = .ok (.iconst 0, 1) := by decide +kernel
theorem gd_Picker_choose_27 : decode prog_7_method_2_code 27 = .ok (.istore_n 3, 1) := by decide +kernel
theorem gd_Picker_choose_28 : decode prog_7_method_2_code 28 = .ok (.aload_n 0, 1) := by decide +kernel
theorem gd_Picker_choose_29 : decode prog_7_method_2_code 29 = .ok (.getfield 59, 3) := by decide +kernel
theorem gd_Picker_choose_32 : decode prog_7_method_2_code 32 = .ok (.ifCond .le 135, 3) := by decide +kernel
theorem gd_Picker_choose_35 : decode prog_7_method_2_code 35 = .ok (.iload_n 3, 1) := by decide +kernel
theorem gd_Picker_choose_36 : decode prog_7_method_2_code 36 = .ok (.sipush 300, 3) := by decide +kernel
theorem gd_Picker_choose_39 : decode prog_7_method_2_code 39 = .ok (.if_icmp .ne 7, 3) := by decide +kernel
theorem gd_Picker_choose_42 : decode prog_7_method_2_code 42 = .ok (.sipush (-1004), 3) := by decide +kernel
theorem gd_Picker_choose_45 : decode prog_7_method_2_code 45 = .ok (.ireturn, 1) := by decide +kernel
theorem gd_Picker_choose_46 : decode prog_7_method_2_code 46 = .ok (.aload_n 0, 1) := by decide +kernel
theorem gd_Picker_choose_47 : decode prog_7_method_2_code 47 = .ok (.dup, 1) := by decide +kernel
theorem gd_Picker_choose_48 : decode prog_7_method_2_code 48 = .ok (.getfield 59, 3) := by decide +kernel
theorem gd_Picker_choose_51 : decode prog_7_method_2_code 51 = .ok (.iconst 1, 1) := by decide +kernel
theorem gd_Picker_choose_52 : decode prog_7_method_2_code 52 = .ok (.isub, 1) := by decide +kernel
theorem gd_Picker_choose_53 : decode prog_7_method_2_code 53 = .ok (.putfield 59, 3) := by decide +kernel
theorem gd_Picker_choose_56 : decode prog_7_method_2_code 56 = .ok (.aload_n 0, 1) := by decide +kernel
theorem gd_Picker_choose_57 : decode prog_7_method_2_code 57 = .ok (.getfield 18, 3) := by decide +kernel
theorem gd_Picker_choose_60 : decode prog_7_method_2_code 60 = .ok (.aload_n 0, 1) := by decide +kernel
theorem gd_Picker_choose_61 : decode prog_7_method_2_code 61 = .ok (.getfield 59, 3) := by decide +kernel
theorem gd_Picker_choose_64 : decode prog_7_method_2_code 64 = .ok (.iaload, 1) := by decide +kernel
theorem gd_Picker_choose_65 : decode prog_7_method_2_code 65 = .ok (.ifCond .ge 21, 3) := by decide +kernel
theorem gd_Picker_choose_68 : decode prog_7_method_2_code 68 = .ok (.aload_n 0, 1) := by decide +kernel
theorem gd_Picker_choose_69 : decode prog_7_method_2_code 69 = .ok (.getfield 15, 3) := by decide +kernel
theorem gd_Picker_choose_72 : decode prog_7_method_2_code 72 = .ok (.iload_n 3, 1) := by decide +kernel
theorem gd_Picker_choose_73 : decode prog_7_method_2_code 73 = .ok (.aload_n 0, 1) := by decide +kernel
theorem gd_Picker_choose_74 : decode prog_7_method_2_code 74 = .ok (.getfield 18, 3) := by decide +kernel
theorem gd_Picker_choose_77 : decode prog_7_method_2_code 77 = .ok (.aload_n 0, 1) := by decide +kernel
theorem gd_Picker_choose_78 : decode prog_7_method_2_code 78 = .ok (.getfield 59, 3) := by decide +kernel
theorem gd_Picker_choose_81 : decode prog_7_method_2_code 81 = .ok (.iaload, 1) := by decide +kernel
theorem gd_Picker_choose_82 : decode prog_7_method_2_code 82 = .ok (.iastore, 1) := by decide +kernel
theorem gd_Picker_choose_83 : decode prog_7_method_2_code 83 = .ok (.goto 78, 3) := by decide +kernel
theorem gd_Picker_choose_86 : decode prog_7_method_2_code 86 = .ok (.aload_n 0, 1) := by decide +kernel
theorem gd_Picker_choose_87 : decode prog_7_method_2_code 87 = .ok (.aload_n 0, 1) := by decide +kernel
theorem gd_Picker_choose_88 : decode prog_7_method_2_code 88 = .ok (.getfield 18, 3) := by decide +kernel
theorem gd_Picker_choose_91 : decode prog_7_method_2_code 91 = .ok (.aload_n 0, 1) := by decide +kernel
theorem gd_Picker_choose_92 : decode prog_7_method_2_code 92 = .ok (.getfield 59, 3) := by decide +kernel
theorem gd_Picker_choose_95 : decode prog_7_method_2_code 95 = .ok (.iaload, 1) := by decide +kernel
theorem gd_Picker_choose_96 : decode prog_7_method_2_code 96 = .ok (.aload_n 0, 1) := by decide +kernel
theorem gd_Picker_choose_97 : decode prog_7_method_2_code 97 = .ok (.getfield 59, 3) := by decide +kernel
theorem gd_Picker_choose_100 : decode prog_7_method_2_code 100 = .ok (.invokevirtual 71, 3) := by decide +kernel
theorem gd_Picker_choose_103 : decode prog_7_method_2_code 103 = .ok (.istore 4, 2) := by decide +kernel
theorem gd_Picker_choose_105 : decode prog_7_method_2_code 105 = .ok (.iload 4, 2) := by decide +kernel
theorem gd_Picker_choose_107 : decode prog_7_method_2_code 107 = .ok (.iconst (-1), 1) := by decide +kernel
theorem gd_Picker_choose_108 : decode prog_7_method_2_code 108 = .ok (.if_icmp .ne 5, 3) := by decide +kernel
theorem gd_Picker_choose_111 : decode prog_7_method_2_code 111 = .ok (.iconst (-1), 1) := by decide +kernel
theorem gd_Picker_choose_112 : decode prog_7_method_2_code 112 = .ok (.ireturn, 1) := by decide +kernel
theorem gd_Picker_choose_113 : decode prog_7_method_2_code 113 = .ok (.aload_n 0, 1) := by decide +kernel
theorem gd_Picker_choose_114 : decode prog_7_method_2_code 114 = .ok (.getfield 15, 3) := by decide +kernel
theorem gd_Picker_choose_117 : decode prog_7_method_2_code 117 = .ok (.iload_n 3, 1) := by decide +kernel
theorem gd_Picker_choose_118 : decode prog_7_method_2_code 118 = .ok (.iload 4, 2) := by decide +kernel
theorem gd_Picker_choose_120 : decode prog_7_method_2_code 120 = .ok (.iastore, 1) := by decide +kernel
theorem gd_Picker_choose_121 : decode prog_7_method_2_code 121 = .ok (.aload_n 0, 1) := by decide +kernel
theorem gd_Picker_choose_122 : decode prog_7_method_2_code 122 = .ok (.aload_n 0, 1) := by decide +kernel
theorem gd_Picker_choose_123 : decode prog_7_method_2_code 123 = .ok (.getfield 55, 3) := by decide +kernel
theorem gd_Picker_choose_126 : decode prog_7_method_2_code 126 = .ok (.aload_n 0, 1) := by decide +kernel
theorem gd_Picker_choose_127 : decode prog_7_method_2_code 127 = .ok (.getfield 30, 3) := by decide +kernel
theorem gd_Picker_choose_130 : decode prog_7_method_2_code 130 = .ok (.aload_n 0, 1) := by decide +kernel
theorem gd_Picker_choose_131 : decode prog_7_method_2_code 131 = .ok (.getfield 59, 3) := by decide +kernel
theorem gd_Picker_choose_134 : decode prog_7_method_2_code 134 = .ok (.iaload, 1) := by decide +kernel
theorem gd_Picker_choose_135 : decode prog_7_method_2_code 135 = .ok (.invokestatic 75, 3) := by decide +kernel
theorem gd_Picker_choose_138 : decode prog_7_method_2_code 138 = .ok (.putfield 55, 3) := by decide +kernel
theorem gd_Picker_choose_141 : decode prog_7_method_2_code 141 = .ok (.aload_n 0, 1) := by decide +kernel
theorem gd_Picker_choose_142 : decode prog_7_method_2_code 142 = .ok (.iload 4, 2) := by decide +kernel
theorem gd_Picker_choose_144 : decode prog_7_method_2_code 144 = .ok (.aload_n 0, 1) := by decide +kernel
theorem gd_Picker_choose_145 : decode prog_7_method_2_code 145 = .ok (.getfield 59, 3) := by decide +kernel
theorem gd_Picker_choose_148 : decode prog_7_method_2_code 148 = .ok (.invokevirtual 80, 3) := by decide +kernel
theorem gd_Picker_choose_151 : decode prog_7_method_2_code 151 = .ok (.aload_n 0, 1) := by decide +kernel
theorem gd_Picker_choose_152 : decode prog_7_method_2_code 152 = .ok (.iload 4, 2) := by decide +kernel
theorem gd_Picker_choose_154 : decode prog_7_method_2_code 154 = .ok (.aload_n 0, 1) := by decide +kernel
theorem gd_Picker_choose_155 : decode prog_7_method_2_code 155 = .ok (.getfield 59, 3) := by decide +kernel
theorem gd_Picker_choose_158 : decode prog_7_method_2_code 158 = .ok (.invokevirtual 84, 3) := by decide +kernel
theorem gd_Picker_choose_161 : decode prog_7_method_2_code 161 = .ok (.iinc 3 1, 3) := by decide +kernel
theorem gd_Picker_choose_164 : decode prog_7_method_2_code 164 = .ok (.goto (-136), 3) := by decide +kernel
theorem gd_Picker_choose_167 : decode prog_7_method_2_code 167 = .ok (.aload_n 0, 1) := by decide +kernel
theorem gd_Picker_choose_168 : decode prog_7_method_2_code 168 = .ok (.getfield 15, 3) := by decide +kernel
theorem gd_Picker_choose_171 : decode prog_7_method_2_code 171 = .ok (.iconst 0, 1) := by decide +kernel
theorem gd_Picker_choose_172 : decode prog_7_method_2_code 172 = .ok (.aload_n 0, 1) := by decide +kernel
theorem gd_Picker_choose_173 : decode prog_7_method_2_code 173 = .ok (.getfield 9, 3) := by decide +kernel
theorem gd_Picker_choose_176 : decode prog_7_method_2_code 176 = .ok (.iconst 0, 1) := by decide +kernel
theorem gd_Picker_choose_177 : decode prog_7_method_2_code 177 = .ok (.iload_n 3, 1) := by decide +kernel
theorem gd_Picker_choose_178 : decode prog_7_method_2_code 178 = .ok (.invokestatic 87, 3) := by decide +kernel
theorem gd_Picker_choose_181 : decode prog_7_method_2_code 181 = .ok (.aload_n 0, 1) := by decide +kernel
theorem gd_Picker_choose_182 : decode prog_7_method_2_code 182 = .ok (.iload_n 3, 1) := by decide +kernel
theorem gd_Picker_choose_183 : decode prog_7_method_2_code 183 = .ok (.putfield 93, 3) := by decide +kernel
theorem gd_Picker_choose_186 : decode prog_7_method_2_code 186 = .ok (.aload_n 0, 1) := by decide +kernel
theorem gd_Picker_choose_187 : decode prog_7_method_2_code 187 = .ok (.aload_n 0, 1) := by decide +kernel
theorem gd_Picker_choose_188 : decode prog_7_method_2_code 188 = .ok (.getfield 55, 3) := by decide +kernel
theorem gd_Picker_choose_191 : decode prog_7_method_2_code 191 = .ok (.putfield 94, 3) := by decide +kernel
theorem gd_Picker_choose_194 : decode prog_7_method_2_code 194 = .ok (.aload_n 0, 1) := by decide +kernel
theorem gd_Picker_choose_195 : decode prog_7_method_2_code 195 = .ok (.getfield 93, 3) := by decide +kernel
theorem gd_Picker_choose_198 : decode prog_7_method_2_code 198 = .ok (.ireturn, 1) := by decide +kernel
theorem gd_Picker_push_0 : decode prog_7_method_3_code 0 = .ok (.aload_n 0, 1) := by decide +kernel
theorem gd_Picker_push_1 : decode prog_7_method_3_code 1 = .ok (.getfield 59, 3) := by decide +kernel
theorem gd_Picker_push_4 : decode prog_7_method_3_code 4 = .ok (.sipush 289, 3) := by decide +kernel
theorem gd_Picker_push_7 : decode prog_7_method_3_code 7 = .ok (.if_icmp .ge 76, 3) := by decide +kernel
theorem gd_Picker_push_10 : decode prog_7_method_3_code 10 = .ok (.aload_n 0, 1) := by decide +kernel
theorem gd_Picker_push_11 : decode prog_7_method_3_code 11 = .ok (.getfield 18, 3) := by decide +kernel
theorem gd_Picker_push_14 : decode prog_7_method_3_code 14 = .ok (.aload_n 0, 1) := by decide +kernel
theorem gd_Picker_push_15 : decode prog_7_method_3_code 15 = .ok (.getfield 59, 3) := by decide +kernel
theorem gd_Picker_push_18 : decode prog_7_method_3_code 18 = .ok (.iload_n 1, 1) := by decide +kernel
theorem gd_Picker_push_19 : decode prog_7_method_3_code 19 = .ok (.iastore, 1) := by decide +kernel
theorem gd_Picker_push_20 : decode prog_7_method_3_code 20 = .ok (.aload_n 0, 1) := by decide +kernel
theorem gd_Picker_push_21 : decode prog_7_method_3_code 21 = .ok (.getfield 21, 3) := by decide +kernel
theorem gd_Picker_push_24 : decode prog_7_method_3_code 24 = .ok (.aload_n 0, 1) := by decide +kernel
theorem gd_Picker_push_25 : decode prog_7_method_3_code 25 = .ok (.getfield 59, 3) := by decide +kernel
theorem gd_Picker_push_28 : decode prog_7_method_3_code 28 = .ok (.iload_n 2, 1) := by decide +kernel
theorem gd_Picker_push_29 : decode prog_7_method_3_code 29 = .ok (.iastore, 1) := by decide +kernel
theorem gd_Picker_push_30 : decode prog_7_method_3_code 30 = .ok (.aload_n 0, 1) := by decide +kernel
theorem gd_Picker_push_31 : decode prog_7_method_3_code 31 = .ok (.getfield 24, 3) := by decide +kernel
theorem gd_Picker_push_34 : decode prog_7_method_3_code 34 = .ok (.aload_n 0, 1) := by decide +kernel
theorem gd_Picker_push_35 : decode prog_7_method_3_code 35 = .ok (.getfield 59, 3) := by decide +kernel
theorem gd_Picker_push_38 : decode prog_7_method_3_code 38 = .ok (.iload_n 3, 1) := by decide +kernel
theorem gd_Picker_push_39 : decode prog_7_method_3_code 39 = .ok (.iastore, 1) := by decide +kernel
theorem gd_Picker_push_40 : decode prog_7_method_3_code 40 = .ok (.aload_n 0, 1) := by decide +kernel
theorem gd_Picker_push_41 : decode prog_7_method_3_code 41 = .ok (.getfield 27, 3) := by decide +kernel
theorem gd_Picker_push_44 : decode prog_7_method_3_code 44 = .ok (.aload_n 0, 1) := by decide +kernel
theorem gd_Picker_push_45 : decode prog_7_method_3_code 45 = .ok (.getfield 59, 3) := by decide +kernel
theorem gd_Picker_push_48 : decode prog_7_method_3_code 48 = .ok (.iload 4, 2) := by decide +kernel
theorem gd_Picker_push_50 : decode prog_7_method_3_code 50 = .ok (.iastore, 1) := by decide +kernel
theorem gd_Picker_push_51 : decode prog_7_method_3_code 51 = .ok (.aload_n 0, 1) := by decide +kernel
theorem gd_Picker_push_52 : decode prog_7_method_3_code 52 = .ok (.getfield 30, 3) := by decide +kernel
theorem gd_Picker_push_55 : decode prog_7_method_3_code 55 = .ok (.aload_n 0, 1) := by decide +kernel
theorem gd_Picker_push_56 : decode prog_7_method_3_code 56 = .ok (.getfield 59, 3) := by decide +kernel
theorem gd_Picker_push_59 : decode prog_7_method_3_code 59 = .ok (.iload 5, 2) := by decide +kernel
theorem gd_Picker_push_61 : decode prog_7_method_3_code 61 = .ok (.iastore, 1) := by decide +kernel
theorem gd_Picker_push_62 : decode prog_7_method_3_code 62 = .ok (.aload_n 0, 1) := by decide +kernel
theorem gd_Picker_push_63 : decode prog_7_method_3_code 63 = .ok (.getfield 33, 3) := by decide +kernel
theorem gd_Picker_push_66 : decode prog_7_method_3_code 66 = .ok (.aload_n 0, 1) := by decide +kernel
theorem gd_Picker_push_67 : decode prog_7_method_3_code 67 = .ok (.getfield 59, 3) := by decide +kernel
theorem gd_Picker_push_70 : decode prog_7_method_3_code 70 = .ok (.lload 6, 2) := by decide +kernel
theorem gd_Picker_push_72 : decode prog_7_method_3_code 72 = .ok (.lastore, 1) := by decide +kernel
theorem gd_Picker_push_73 : decode prog_7_method_3_code 73 = .ok (.aload_n 0, 1) := by decide +kernel
theorem gd_Picker_push_74 : decode prog_7_method_3_code 74 = .ok (.dup, 1) := by decide +kernel
theorem gd_Picker_push_75 : decode prog_7_method_3_code 75 = .ok (.getfield 59, 3) := by decide +kernel
theorem gd_Picker_push_78 : decode prog_7_method_3_code 78 = .ok (.iconst 1, 1) := by decide +kernel
theorem gd_Picker_push_79 : decode prog_7_method_3_code 79 = .ok (.iadd, 1) := by decide +kernel
theorem gd_Picker_push_80 : decode prog_7_method_3_code 80 = .ok (.putfield 59, 3) := by decide +kernel
theorem gd_Picker_push_83 : decode prog_7_method_3_code 83 = .ok (.return_, 1) := by decide +kernel
theorem gd_Picker_ruleOf_0 : decode prog_7_method_4_code 0 = .ok (.aload_n 0, 1) := by decide +kernel
theorem gd_Picker_ruleOf_1 : decode prog_7_method_4_code 1 = .ok (.getfield 27, 3) := by decide +kernel
theorem gd_Picker_ruleOf_4 : decode prog_7_method_4_code 4 = .ok (.iload_n 2, 1) := by decide +kernel
theorem gd_Picker_ruleOf_5 : decode prog_7_method_4_code 5 = .ok (.iaload, 1) := by decide +kernel
theorem gd_Picker_ruleOf_6 : decode prog_7_method_4_code 6 = .ok (.iconst 1, 1) := by decide +kernel
theorem gd_Picker_ruleOf_7 : decode prog_7_method_4_code 7 = .ok (.iload_n 1, 1) := by decide +kernel
theorem gd_Picker_ruleOf_8 : decode prog_7_method_4_code 8 = .ok (.ishl, 1) := by decide +kernel
theorem gd_Picker_ruleOf_9 : decode prog_7_method_4_code 9 = .ok (.ior, 1) := by decide +kernel
theorem gd_Picker_ruleOf_10 : decode prog_7_method_4_code 10 = .ok (.istore_n 3, 1) := by decide +kernel
theorem gd_Picker_ruleOf_11 : decode prog_7_method_4_code 11 = .ok (.aload_n 0, 1) := by decide +kernel
theorem gd_Picker_ruleOf_12 : decode prog_7_method_4_code 12 = .ok (.getfield 21, 3) := by decide +kernel
theorem gd_Picker_ruleOf_15 : decode prog_7_method_4_code 15 = .ok (.iload_n 2, 1) := by decide +kernel
theorem gd_Picker_ruleOf_16 : decode prog_7_method_4_code 16 = .ok (.iaload, 1) := by decide +kernel
theorem gd_Picker_ruleOf_17 : decode prog_7_method_4_code 17 = .ok (.aload_n 0, 1) := by decide +kernel
theorem gd_Picker_ruleOf_18 : decode prog_7_method_4_code 18 = .ok (.getfield 24, 3) := by decide +kernel
theorem gd_Picker_ruleOf_21 : decode prog_7_method_4_code 21 = .ok (.iload_n 2, 1) := by decide +kernel
theorem gd_Picker_ruleOf_22 : decode prog_7_method_4_code 22 = .ok (.iaload, 1) := by decide +kernel
theorem gd_Picker_ruleOf_23 : decode prog_7_method_4_code 23 = .ok (.if_icmp .ge 19, 3) := by decide +kernel
theorem gd_Picker_ruleOf_26 : decode prog_7_method_4_code 26 = .ok (.aload_n 0, 1) := by decide +kernel
theorem gd_Picker_ruleOf_27 : decode prog_7_method_4_code 27 = .ok (.getfield 27, 3) := by decide +kernel
theorem gd_Picker_ruleOf_30 : decode prog_7_method_4_code 30 = .ok (.iload_n 2, 1) := by decide +kernel
theorem gd_Picker_ruleOf_31 : decode prog_7_method_4_code 31 = .ok (.iaload, 1) := by decide +kernel
theorem gd_Picker_ruleOf_32 : decode prog_7_method_4_code 32 = .ok (.ifCond .ne 10, 3) := by decide +kernel
theorem gd_Picker_ruleOf_35 : decode prog_7_method_4_code 35 = .ok (.aload_n 0, 1) := by decide +kernel
theorem gd_Picker_ruleOf_36 : decode prog_7_method_4_code 36 = .ok (.getfield 51, 3) := by decide +kernel
theorem gd_Picker_ruleOf_39 : decode prog_7_method_4_code 39 = .ok (.invokevirtual 97, 3) := by decide +kernel
theorem gd_Picker_ruleOf_42 : decode prog_7_method_4_code 42 = .ok (.aload_n 0, 1) := by decide +kernel
theorem gd_Picker_ruleOf_43 : decode prog_7_method_4_code 43 = .ok (.getfield 43, 3) := by decide +kernel
theorem gd_Picker_ruleOf_46 : decode prog_7_method_4_code 46 = .ok (.getfield 102, 3) := by decide +kernel
theorem gd_Picker_ruleOf_49 : decode prog_7_method_4_code 49 = .ok (.iload_n 1, 1) := by decide +kernel
theorem gd_Picker_ruleOf_50 : decode prog_7_method_4_code 50 = .ok (.iaload, 1) := by decide +kernel
theorem gd_Picker_ruleOf_51 : decode prog_7_method_4_code 51 = .ok (.istore 4, 2) := by decide +kernel
theorem gd_Picker_ruleOf_53 : decode prog_7_method_4_code 53 = .ok (.iload 4, 2) := by decide +kernel
theorem gd_Picker_ruleOf_55 : decode prog_7_method_4_code 55 = .ok (.aload_n 0, 1) := by decide +kernel
theorem gd_Picker_ruleOf_56 : decode prog_7_method_4_code 56 = .ok (.getfield 43, 3) := by decide +kernel
theorem gd_Picker_ruleOf_59 : decode prog_7_method_4_code 59 = .ok (.iload_n 1, 1) := by decide +kernel
theorem gd_Picker_ruleOf_60 : decode prog_7_method_4_code 60 = .ok (.invokevirtual 107, 3) := by decide +kernel
theorem gd_Picker_ruleOf_63 : decode prog_7_method_4_code 63 = .ok (.if_icmp .ge 60, 3) := by decide +kernel
theorem gd_Picker_ruleOf_66 : decode prog_7_method_4_code 66 = .ok (.aload_n 0, 1) := by decide +kernel
theorem gd_Picker_ruleOf_67 : decode prog_7_method_4_code 67 = .ok (.getfield 51, 3) := by decide +kernel
theorem gd_Picker_ruleOf_70 : decode prog_7_method_4_code 70 = .ok (.iload 4, 2) := by decide +kernel
theorem gd_Picker_ruleOf_72 : decode prog_7_method_4_code 72 = .ok (.aload_n 0, 1) := by decide +kernel
theorem gd_Picker_ruleOf_73 : decode prog_7_method_4_code 73 = .ok (.getfield 21, 3) := by decide +kernel
theorem gd_Picker_ruleOf_76 : decode prog_7_method_4_code 76 = .ok (.iload_n 2, 1) := by decide +kernel
theorem gd_Picker_ruleOf_77 : decode prog_7_method_4_code 77 = .ok (.iaload, 1) := by decide +kernel
theorem gd_Picker_ruleOf_78 : decode prog_7_method_4_code 78 = .ok (.aload_n 0, 1) := by decide +kernel
theorem gd_Picker_ruleOf_79 : decode prog_7_method_4_code 79 = .ok (.getfield 24, 3) := by decide +kernel
theorem gd_Picker_ruleOf_82 : decode prog_7_method_4_code 82 = .ok (.iload_n 2, 1) := by decide +kernel
theorem gd_Picker_ruleOf_83 : decode prog_7_method_4_code 83 = .ok (.iaload, 1) := by decide +kernel
theorem gd_Picker_ruleOf_84 : decode prog_7_method_4_code 84 = .ok (.iload_n 3, 1) := by decide +kernel
theorem gd_Picker_ruleOf_85 : decode prog_7_method_4_code 85 = .ok (.iconst 0, 1) := by decide +kernel
theorem gd_Picker_ruleOf_86 : decode prog_7_method_4_code 86 = .ok (.invokevirtual 111, 3) := by decide +kernel
theorem gd_Picker_ruleOf_89 : decode prog_7_method_4_code 89 = .ok (.lstore 5, 2) := by decide +kernel
theorem gd_Picker_ruleOf_91 : decode prog_7_method_4_code 91 = .ok (.aload_n 0, 1) := by decide +kernel
theorem gd_Picker_ruleOf_92 : decode prog_7_method_4_code 92 = .ok (.getfield 33, 3) := by decide +kernel
theorem gd_Picker_ruleOf_95 : decode prog_7_method_4_code 95 = .ok (.iload_n 2, 1) := by decide +kernel
theorem gd_Picker_ruleOf_96 : decode prog_7_method_4_code 96 = .ok (.laload, 1) := by decide +kernel
theorem gd_Picker_ruleOf_97 : decode prog_7_method_4_code 97 = .ok (.lload 5, 2) := by decide +kernel
theorem gd_Picker_ruleOf_99 : decode prog_7_method_4_code 99 = .ok (.lcmp, 1) := by decide +kernel
theorem gd_Picker_ruleOf_100 : decode prog_7_method_4_code 100 = .ok (.ifCond .ge 6, 3) := by decide +kernel
theorem gd_Picker_ruleOf_103 : decode prog_7_method_4_code 103 = .ok (.iload 4, 2) := by decide +kernel
theorem gd_Picker_ruleOf_105 : decode prog_7_method_4_code 105 = .ok (.ireturn, 1) := by decide +kernel
theorem gd_Picker_ruleOf_106 : decode prog_7_method_4_code 106 = .ok (.aload_n 0, 1) := by decide +kernel
theorem gd_Picker_ruleOf_107 : decode prog_7_method_4_code 107 = .ok (.getfield 33, 3) := by decide +kernel
theorem gd_Picker_ruleOf_110 : decode prog_7_method_4_code 110 = .ok (.iload_n 2, 1) := by decide +kernel
theorem gd_Picker_ruleOf_111 : decode prog_7_method_4_code 111 = .ok (.dup2, 1) := by decide +kernel
theorem gd_Picker_ruleOf_112 : decode prog_7_method_4_code 112 = .ok (.laload, 1) := by decide +kernel
theorem gd_Picker_ruleOf_113 : decode prog_7_method_4_code 113 = .ok (.lload 5, 2) := by decide +kernel
theorem gd_Picker_ruleOf_115 : decode prog_7_method_4_code 115 = .ok (.lsub, 1) := by decide +kernel
theorem gd_Picker_ruleOf_116 : decode prog_7_method_4_code 116 = .ok (.lastore, 1) := by decide +kernel
theorem gd_Picker_ruleOf_117 : decode prog_7_method_4_code 117 = .ok (.iinc 4 1, 3) := by decide +kernel
theorem gd_Picker_ruleOf_120 : decode prog_7_method_4_code 120 = .ok (.goto (-67), 3) := by decide +kernel
theorem gd_Picker_ruleOf_123 : decode prog_7_method_4_code 123 = .ok (.iconst (-1), 1) := by decide +kernel
theorem gd_Picker_ruleOf_124 : decode prog_7_method_4_code 124 = .ok (.ireturn, 1) := by decide +kernel
theorem gd_Forest_takeTurn_0 : decode prog_5_method_5_code 0 = .ok (.aload_n 0, 1) := by decide +kernel
theorem gd_Forest_takeTurn_1 : decode prog_5_method_5_code 1 = .ok (.dup, 1) := by decide +kernel
theorem gd_Forest_takeTurn_2 : decode prog_5_method_5_code 2 = .ok (.getfield 62, 3) := by decide +kernel
theorem gd_Forest_takeTurn_5 : decode prog_5_method_5_code 5 = .ok (.iconst 1, 1) := by decide +kernel
theorem gd_Forest_takeTurn_6 : decode prog_5_method_5_code 6 = .ok (.iadd, 1) := by decide +kernel
theorem gd_Forest_takeTurn_7 : decode prog_5_method_5_code 7 = .ok (.putfield 62, 3) := by decide +kernel
theorem gd_Forest_takeTurn_10 : decode prog_5_method_5_code 10 = .ok (.return_, 1) := by decide +kernel
theorem gd_Picker_shareOut_0 : decode prog_7_method_5_code 0 = .ok (.aload_n 0, 1) := by decide +kernel
theorem gd_Picker_shareOut_1 : decode prog_7_method_5_code 1 = .ok (.getfield 21, 3) := by decide +kernel
theorem gd_Picker_shareOut_4 : decode prog_7_method_5_code 4 = .ok (.iload_n 2, 1) := by decide +kernel
theorem gd_Picker_shareOut_5 : decode prog_7_method_5_code 5 = .ok (.iaload, 1) := by decide +kernel
theorem gd_Picker_shareOut_6 : decode prog_7_method_5_code 6 = .ok (.istore_n 3, 1) := by decide +kernel
theorem gd_Picker_shareOut_7 : decode prog_7_method_5_code 7 = .ok (.aload_n 0, 1) := by decide +kernel
theorem gd_Picker_shareOut_8 : decode prog_7_method_5_code 8 = .ok (.getfield 24, 3) := by decide +kernel
theorem gd_Picker_shareOut_11 : decode prog_7_method_5_code 11 = .ok (.iload_n 2, 1) := by decide +kernel
theorem gd_Picker_shareOut_12 : decode prog_7_method_5_code 12 = .ok (.iaload, 1) := by decide +kernel
theorem gd_Picker_shareOut_13 : decode prog_7_method_5_code 13 = .ok (.istore 4, 2) := by decide +kernel
theorem gd_Picker_shareOut_15 : decode prog_7_method_5_code 15 = .ok (.aload_n 0, 1) := by decide +kernel
theorem gd_Picker_shareOut_16 : decode prog_7_method_5_code 16 = .ok (.getfield 27, 3) := by decide +kernel
theorem gd_Picker_shareOut_19 : decode prog_7_method_5_code 19 = .ok (.iload_n 2, 1) := by decide +kernel
theorem gd_Picker_shareOut_20 : decode prog_7_method_5_code 20 = .ok (.iaload, 1) := by decide +kernel
theorem gd_Picker_shareOut_21 : decode prog_7_method_5_code 21 = .ok (.iconst 1, 1) := by decide +kernel
theorem gd_Picker_shareOut_22 : decode prog_7_method_5_code 22 = .ok (.aload_n 0, 1) := by decide +kernel
theorem gd_Picker_shareOut_23 : decode prog_7_method_5_code 23 = .ok (.getfield 18, 3) := by decide +kernel
theorem gd_Picker_shareOut_26 : decode prog_7_method_5_code 26 = .ok (.iload_n 2, 1) := by decide +kernel
theorem gd_Picker_shareOut_27 : decode prog_7_method_5_code 27 = .ok (.iaload, 1) := by decide +kernel
theorem gd_Picker_shareOut_28 : decode prog_7_method_5_code 28 = .ok (.ishl, 1) := by decide +kernel
theorem gd_Picker_shareOut_29 : decode prog_7_method_5_code 29 = .ok (.ior, 1) := by decide +kernel
theorem gd_Picker_shareOut_30 : decode prog_7_method_5_code 30 = .ok (.istore 5, 2) := by decide +kernel
theorem gd_Picker_shareOut_32 : decode prog_7_method_5_code 32 = .ok (.iload_n 3, 1) := by decide +kernel
theorem gd_Picker_shareOut_33 : decode prog_7_method_5_code 33 = .ok (.istore 6, 2) := by decide +kernel
theorem gd_Picker_shareOut_35 : decode prog_7_method_5_code 35 = .ok (.aload_n 0, 1) := by decide +kernel
theorem gd_Picker_shareOut_36 : decode prog_7_method_5_code 36 = .ok (.getfield 33, 3) := by decide +kernel
theorem gd_Picker_shareOut_39 : decode prog_7_method_5_code 39 = .ok (.iload_n 2, 1) := by decide +kernel
theorem gd_Picker_shareOut_40 : decode prog_7_method_5_code 40 = .ok (.laload, 1) := by decide +kernel
theorem gd_Picker_shareOut_41 : decode prog_7_method_5_code 41 = .ok (.lstore 7, 2) := by decide +kernel
theorem gd_Picker_shareOut_43 : decode prog_7_method_5_code 43 = .ok (.iconst 0, 1) := by decide +kernel
theorem gd_Picker_shareOut_44 : decode prog_7_method_5_code 44 = .ok (.istore 9, 2) := by decide +kernel
theorem gd_Picker_shareOut_46 : decode prog_7_method_5_code 46 = .ok (.iload 9, 2) := by decide +kernel
theorem gd_Picker_shareOut_48 : decode prog_7_method_5_code 48 = .ok (.aload_n 0, 1) := by decide +kernel
theorem gd_Picker_shareOut_49 : decode prog_7_method_5_code 49 = .ok (.getfield 43, 3) := by decide +kernel
theorem gd_Picker_shareOut_52 : decode prog_7_method_5_code 52 = .ok (.getfield 115, 3) := by decide +kernel
theorem gd_Picker_shareOut_55 : decode prog_7_method_5_code 55 = .ok (.iload_n 1, 1) := by decide +kernel
theorem gd_Picker_shareOut_56 : decode prog_7_method_5_code 56 = .ok (.iaload, 1) := by decide +kernel
theorem gd_Picker_shareOut_57 : decode prog_7_method_5_code 57 = .ok (.if_icmp .ge 159, 3) := by decide +kernel
theorem gd_Picker_shareOut_60 : decode prog_7_method_5_code 60 = .ok (.iconst 0, 1) := by decide +kernel
theorem gd_Picker_shareOut_61 : decode prog_7_method_5_code 61 = .ok (.istore 10, 2) := by decide +kernel
theorem gd_Picker_shareOut_63 : decode prog_7_method_5_code 63 = .ok (.iload 6, 2) := by decide +kernel
theorem gd_Picker_shareOut_65 : decode prog_7_method_5_code 65 = .ok (.istore 11, 2) := by decide +kernel
theorem gd_Picker_shareOut_67 : decode prog_7_method_5_code 67 = .ok (.iload 11, 2) := by decide +kernel
theorem gd_Picker_shareOut_69 : decode prog_7_method_5_code 69 = .ok (.iload 4, 2) := by decide +kernel
theorem gd_Picker_shareOut_71 : decode prog_7_method_5_code 71 = .ok (.if_icmp .gt 130, 3) := by decide +kernel
theorem gd_Picker_shareOut_74 : decode prog_7_method_5_code 74 = .ok (.iload 10, 2) := by decide +kernel
theorem gd_Picker_shareOut_76 : decode prog_7_method_5_code 76 = .ok (.ifCond .ne 125, 3) := by decide +kernel
theorem gd_Picker_shareOut_79 : decode prog_7_method_5_code 79 = .ok (.aload_n 0, 1) := by decide +kernel
theorem gd_Picker_shareOut_80 : decode prog_7_method_5_code 80 = .ok (.getfield 51, 3) := by decide +kernel
theorem gd_Picker_shareOut_83 : decode prog_7_method_5_code 83 = .ok (.iload 9, 2) := by decide +kernel
theorem gd_Picker_shareOut_85 : decode prog_7_method_5_code 85 = .ok (.iconst 1, 1) := by decide +kernel
theorem gd_Picker_shareOut_86 : decode prog_7_method_5_code 86 = .ok (.iadd, 1) := by decide +kernel
theorem gd_Picker_shareOut_87 : decode prog_7_method_5_code 87 = .ok (.iload 11, 2) := by decide +kernel
theorem gd_Picker_shareOut_89 : decode prog_7_method_5_code 89 = .ok (.invokevirtual 118, 3) := by decide +kernel
theorem gd_Picker_shareOut_92 : decode prog_7_method_5_code 92 = .ok (.lstore 12, 2) := by decide +kernel
theorem gd_Picker_shareOut_94 : decode prog_7_method_5_code 94 = .ok (.lload 12, 2) := by decide +kernel
theorem gd_Picker_shareOut_96 : decode prog_7_method_5_code 96 = .ok (.lconst 0, 1) := by decide +kernel
theorem gd_Picker_shareOut_97 : decode prog_7_method_5_code 97 = .ok (.lcmp, 1) := by decide +kernel
theorem gd_Picker_shareOut_98 : decode prog_7_method_5_code 98 = .ok (.ifCond .le 97, 3) := by decide +kernel
theorem gd_Picker_shareOut_101 : decode prog_7_method_5_code 101 = .ok (.aload_n 0, 1) := by decide +kernel
theorem gd_Picker_shareOut_102 : decode prog_7_method_5_code 102 = .ok (.getfield 51, 3) := by decide +kernel
theorem gd_Picker_shareOut_105 : decode prog_7_method_5_code 105 = .ok (.aload_n 0, 1) := by decide +kernel
theorem gd_Picker_shareOut_106 : decode prog_7_method_5_code 106 = .ok (.getfield 43, 3) := by decide +kernel
theorem gd_Picker_shareOut_109 : decode prog_7_method_5_code 109 = .ok (.iload_n 1, 1) := by decide +kernel
theorem gd_Picker_shareOut_110 : decode prog_7_method_5_code 110 = .ok (.iload 9, 2) := by decide +kernel
theorem gd_Picker_shareOut_112 : decode prog_7_method_5_code 112 = .ok (.invokevirtual 122, 3) := by decide +kernel
theorem gd_Picker_shareOut_115 : decode prog_7_method_5_code 115 = .ok (.iload 6, 2) := by decide +kernel
theorem gd_Picker_shareOut_117 : decode prog_7_method_5_code 117 = .ok (.iload 11, 2) := by decide +kernel
theorem gd_Picker_shareOut_119 : decode prog_7_method_5_code 119 = .ok (.iload_n 3, 1) := by decide +kernel
theorem gd_Picker_shareOut_120 : decode prog_7_method_5_code 120 = .ok (.iload 4, 2) := by decide +kernel
theorem gd_Picker_shareOut_122 : decode prog_7_method_5_code 122 = .ok (.iload 5, 2) := by decide +kernel
theorem gd_Picker_shareOut_124 : decode prog_7_method_5_code 124 = .ok (.iconst 0, 1) := by decide +kernel
theorem gd_Picker_shareOut_125 : decode prog_7_method_5_code 125 = .ok (.invokevirtual 125, 3) := by decide +kernel
theorem gd_Picker_shareOut_128 : decode prog_7_method_5_code 128 = .ok (.lstore 14, 2) := by decide +kernel
theorem gd_Picker_shareOut_130 : decode prog_7_method_5_code 130 = .ok (.lload 14, 2) := by decide +kernel
theorem gd_Picker_shareOut_132 : decode prog_7_method_5_code 132 = .ok (.lload 12, 2) := by decide +kernel
theorem gd_Picker_shareOut_134 : decode prog_7_method_5_code 134 = .ok (.invokestatic 129, 3) := by decide +kernel
theorem gd_Picker_shareOut_137 : decode prog_7_method_5_code 137 = .ok (.lstore 16, 2) := by decide +kernel
theorem gd_Picker_shareOut_139 : decode prog_7_method_5_code 139 = .ok (.lload 7, 2) := by decide +kernel
theorem gd_Picker_shareOut_141 : decode prog_7_method_5_code 141 = .ok (.lload 16, 2) := by decide +kernel
theorem gd_Picker_shareOut_143 : decode prog_7_method_5_code 143 = .ok (.lcmp, 1) := by decide +kernel
theorem gd_Picker_shareOut_144 : decode prog_7_method_5_code 144 = .ok (.ifCond .ge 7, 3) := by decide +kernel
theorem gd_Picker_shareOut_147 : decode prog_7_method_5_code 147 = .ok (.iconst 1, 1) := by decide +kernel
theorem gd_Picker_shareOut_148 : decode prog_7_method_5_code 148 = .ok (.goto 4, 3) := by decide +kernel
theorem gd_Picker_shareOut_151 : decode prog_7_method_5_code 151 = .ok (.iconst 0, 1) := by decide +kernel
theorem gd_Picker_shareOut_152 : decode prog_7_method_5_code 152 = .ok (.istore 10, 2) := by decide +kernel
theorem gd_Picker_shareOut_154 : decode prog_7_method_5_code 154 = .ok (.aload_n 0, 1) := by decide +kernel
theorem gd_Picker_shareOut_155 : decode prog_7_method_5_code 155 = .ok (.getfield 37, 3) := by decide +kernel
theorem gd_Picker_shareOut_158 : decode prog_7_method_5_code 158 = .ok (.iload 9, 2) := by decide +kernel
theorem gd_Picker_shareOut_160 : decode prog_7_method_5_code 160 = .ok (.iload 11, 2) := by decide +kernel
theorem gd_Picker_shareOut_162 : decode prog_7_method_5_code 162 = .ok (.iastore, 1) := by decide +kernel
theorem gd_Picker_shareOut_163 : decode prog_7_method_5_code 163 = .ok (.aload_n 0, 1) := by decide +kernel
theorem gd_Picker_shareOut_164 : decode prog_7_method_5_code 164 = .ok (.getfield 40, 3) := by decide +kernel
theorem gd_Picker_shareOut_167 : decode prog_7_method_5_code 167 = .ok (.iload 9, 2) := by decide +kernel
theorem gd_Picker_shareOut_169 : decode prog_7_method_5_code 169 = .ok (.lload 7, 2) := by decide +kernel
theorem gd_Picker_shareOut_171 : decode prog_7_method_5_code 171 = .ok (.lload 12, 2) := by decide +kernel
theorem gd_Picker_shareOut_173 : decode prog_7_method_5_code 173 = .ok (.ldiv, 1) := by decide +kernel
theorem gd_Picker_shareOut_174 : decode prog_7_method_5_code 174 = .ok (.lastore, 1) := by decide +kernel
theorem gd_Picker_shareOut_175 : decode prog_7_method_5_code 175 = .ok (.iload 10, 2) := by decide +kernel
theorem gd_Picker_shareOut_177 : decode prog_7_method_5_code 177 = .ok (.ifCond .eq 11, 3) := by decide +kernel
theorem gd_Picker_shareOut_180 : decode prog_7_method_5_code 180 = .ok (.lload 7, 2) := by decide +kernel
theorem gd_Picker_shareOut_182 : decode prog_7_method_5_code 182 = .ok (.lload 12, 2) := by decide +kernel
theorem gd_Picker_shareOut_184 : decode prog_7_method_5_code 184 = .ok (.lrem, 1) := by decide +kernel
theorem gd_Picker_shareOut_185 : decode prog_7_method_5_code 185 = .ok (.goto 8, 3) := by decide +kernel
theorem gd_Picker_shareOut_188 : decode prog_7_method_5_code 188 = .ok (.lload 7, 2) := by decide +kernel
theorem gd_Picker_shareOut_190 : decode prog_7_method_5_code 190 = .ok (.lload 16, 2) := by decide +kernel
theorem gd_Picker_shareOut_192 : decode prog_7_method_5_code 192 = .ok (.lsub, 1) := by decide +kernel
theorem gd_Picker_shareOut_193 : decode prog_7_method_5_code 193 = .ok (.lstore 7, 2) := by decide +kernel
theorem gd_Picker_shareOut_195 : decode prog_7_method_5_code 195 = .ok (.iinc 11 1, 3) := by decide +kernel
theorem gd_Picker_shareOut_198 : decode prog_7_method_5_code 198 = .ok (.goto (-131), 3) := by decide +kernel
theorem gd_Picker_shareOut_201 : decode prog_7_method_5_code 201 = .ok (.aload_n 0, 1) := by decide +kernel
theorem gd_Picker_shareOut_202 : decode prog_7_method_5_code 202 = .ok (.getfield 37, 3) := by decide +kernel
theorem gd_Picker_shareOut_205 : decode prog_7_method_5_code 205 = .ok (.iload 9, 2) := by decide +kernel
theorem gd_Picker_shareOut_207 : decode prog_7_method_5_code 207 = .ok (.iaload, 1) := by decide +kernel
theorem gd_Picker_shareOut_208 : decode prog_7_method_5_code 208 = .ok (.istore 6, 2) := by decide +kernel
theorem gd_Picker_shareOut_210 : decode prog_7_method_5_code 210 = .ok (.iinc 9 1, 3) := by decide +kernel
theorem gd_Picker_shareOut_213 : decode prog_7_method_5_code 213 = .ok (.goto (-167), 3) := by decide +kernel
theorem gd_Picker_shareOut_216 : decode prog_7_method_5_code 216 = .ok (.return_, 1) := by decide +kernel
theorem gd_Forest_restAt_0 : decode prog_5_method_12_code 0 = .ok (.aload_n 0, 1) := by decide +kernel
theorem gd_Forest_restAt_1 : decode prog_5_method_12_code 1 = .ok (.getfield 15, 3) := by decide +kernel
theorem gd_Forest_restAt_4 : decode prog_5_method_12_code 4 = .ok (.iload_n 1, 1) := by decide +kernel
theorem gd_Forest_restAt_5 : decode prog_5_method_12_code 5 = .ok (.bipush 9, 2) := by decide +kernel
theorem gd_Forest_restAt_7 : decode prog_5_method_12_code 7 = .ok (.imul, 1) := by decide +kernel
theorem gd_Forest_restAt_8 : decode prog_5_method_12_code 8 = .ok (.iload_n 2, 1) := by decide +kernel
theorem gd_Forest_restAt_9 : decode prog_5_method_12_code 9 = .ok (.iadd, 1) := by decide +kernel
theorem gd_Forest_restAt_10 : decode prog_5_method_12_code 10 = .ok (.laload, 1) := by decide +kernel
theorem gd_Forest_restAt_11 : decode prog_5_method_12_code 11 = .ok (.lreturn, 1) := by decide +kernel
theorem gd_Picker_pushParts_0 : decode prog_7_method_6_code 0 = .ok (.aload_n 0, 1) := by decide +kernel
theorem gd_Picker_pushParts_1 : decode prog_7_method_6_code 1 = .ok (.getfield 21, 3) := by decide +kernel
theorem gd_Picker_pushParts_4 : decode prog_7_method_6_code 4 = .ok (.iload_n 2, 1) := by decide +kernel
theorem gd_Picker_pushParts_5 : decode prog_7_method_6_code 5 = .ok (.iaload, 1) := by decide +kernel
theorem gd_Picker_pushParts_6 : decode prog_7_method_6_code 6 = .ok (.istore_n 3, 1) := by decide +kernel
theorem gd_Picker_pushParts_7 : decode prog_7_method_6_code 7 = .ok (.aload_n 0, 1) := by decide +kernel
theorem gd_Picker_pushParts_8 : decode prog_7_method_6_code 8 = .ok (.getfield 24, 3) := by decide +kernel
theorem gd_Picker_pushParts_11 : decode prog_7_method_6_code 11 = .ok (.iload_n 2, 1) := by decide +kernel
theorem gd_Picker_pushParts_12 : decode prog_7_method_6_code 12 = .ok (.iaload, 1) := by decide +kernel
theorem gd_Picker_pushParts_13 : decode prog_7_method_6_code 13 = .ok (.istore 4, 2) := by decide +kernel
theorem gd_Picker_pushParts_15 : decode prog_7_method_6_code 15 = .ok (.aload_n 0, 1) := by decide +kernel
theorem gd_Picker_pushParts_16 : decode prog_7_method_6_code 16 = .ok (.getfield 27, 3) := by decide +kernel
theorem gd_Picker_pushParts_19 : decode prog_7_method_6_code 19 = .ok (.iload_n 2, 1) := by decide +kernel
theorem gd_Picker_pushParts_20 : decode prog_7_method_6_code 20 = .ok (.iaload, 1) := by decide +kernel
theorem gd_Picker_pushParts_21 : decode prog_7_method_6_code 21 = .ok (.iconst 1, 1) := by decide +kernel
theorem gd_Picker_pushParts_22 : decode prog_7_method_6_code 22 = .ok (.aload_n 0, 1) := by decide +kernel
theorem gd_Picker_pushParts_23 : decode prog_7_method_6_code 23 = .ok (.getfield 18, 3) := by decide +kernel
theorem gd_Picker_pushParts_26 : decode prog_7_method_6_code 26 = .ok (.iload_n 2, 1) := by decide +kernel
theorem gd_Picker_pushParts_27 : decode prog_7_method_6_code 27 = .ok (.iaload, 1) := by decide +kernel
theorem gd_Picker_pushParts_28 : decode prog_7_method_6_code 28 = .ok (.ishl, 1) := by decide +kernel
theorem gd_Picker_pushParts_29 : decode prog_7_method_6_code 29 = .ok (.ior, 1) := by decide +kernel
theorem gd_Picker_pushParts_30 : decode prog_7_method_6_code 30 = .ok (.istore 5, 2) := by decide +kernel
theorem gd_Picker_pushParts_32 : decode prog_7_method_6_code 32 = .ok (.aload_n 0, 1) := by decide +kernel
theorem gd_Picker_pushParts_33 : decode prog_7_method_6_code 33 = .ok (.getfield 30, 3) := by decide +kernel
theorem gd_Picker_pushParts_36 : decode prog_7_method_6_code 36 = .ok (.iload_n 2, 1) := by decide +kernel
theorem gd_Picker_pushParts_37 : decode prog_7_method_6_code 37 = .ok (.iaload, 1) := by decide +kernel
theorem gd_Picker_pushParts_38 : decode prog_7_method_6_code 38 = .ok (.iconst 1, 1) := by decide +kernel
theorem gd_Picker_pushParts_39 : decode prog_7_method_6_code 39 = .ok (.iadd, 1) := by decide +kernel
theorem gd_Picker_pushParts_40 : decode prog_7_method_6_code 40 = .ok (.istore 6, 2) := by decide +kernel
theorem gd_Picker_pushParts_42 : decode prog_7_method_6_code 42 = .ok (.aload_n 0, 1) := by decide +kernel
theorem gd_Picker_pushParts_43 : decode prog_7_method_6_code 43 = .ok (.getfield 43, 3) := by decide +kernel
theorem gd_Picker_pushParts_46 : decode prog_7_method_6_code 46 = .ok (.getfield 115, 3) := by decide +kernel
theorem gd_Picker_pushParts_49 : decode prog_7_method_6_code 49 = .ok (.iload_n 1, 1) := by decide +kernel
theorem gd_Picker_pushParts_50 : decode prog_7_method_6_code 50 = .ok (.iaload, 1) := by decide +kernel
theorem gd_Picker_pushParts_51 : decode prog_7_method_6_code 51 = .ok (.iconst 1, 1) := by decide +kernel
theorem gd_Picker_pushParts_52 : decode prog_7_method_6_code 52 = .ok (.isub, 1) := by decide +kernel
theorem gd_Picker_pushParts_53 : decode prog_7_method_6_code 53 = .ok (.istore 7, 2) := by decide +kernel
theorem gd_Picker_pushParts_55 : decode prog_7_method_6_code 55 = .ok (.iload 7, 2) := by decide +kernel
theorem gd_Picker_pushParts_57 : decode prog_7_method_6_code 57 = .ok (.ifCond .lt 121, 3) := by decide +kernel
theorem gd_Picker_pushParts_60 : decode prog_7_method_6_code 60 = .ok (.iload 7, 2) := by decide +kernel
theorem gd_Picker_pushParts_62 : decode prog_7_method_6_code 62 = .ok (.ifCond .ne 7, 3) := by decide +kernel
theorem gd_Picker_pushParts_65 : decode prog_7_method_6_code 65 = .ok (.iload_n 3, 1) := by decide +kernel
theorem gd_Picker_pushParts_66 : decode prog_7_method_6_code 66 = .ok (.goto 12, 3) := by decide +kernel
theorem gd_Picker_pushParts_69 : decode prog_7_method_6_code 69 = .ok (.aload_n 0, 1) := by decide +kernel
theorem gd_Picker_pushParts_70 : decode prog_7_method_6_code 70 = .ok (.getfield 37, 3) := by decide +kernel
theorem gd_Picker_pushParts_73 : decode prog_7_method_6_code 73 = .ok (.iload 7, 2) := by decide +kernel
theorem gd_Picker_pushParts_75 : decode prog_7_method_6_code 75 = .ok (.iconst 1, 1) := by decide +kernel
theorem gd_Picker_pushParts_76 : decode prog_7_method_6_code 76 = .ok (.isub, 1) := by decide +kernel
theorem gd_Picker_pushParts_77 : decode prog_7_method_6_code 77 = .ok (.iaload, 1) := by decide +kernel
theorem gd_Picker_pushParts_78 : decode prog_7_method_6_code 78 = .ok (.istore 8, 2) := by decide +kernel
theorem gd_Picker_pushParts_80 : decode prog_7_method_6_code 80 = .ok (.iload 8, 2) := by decide +kernel
theorem gd_Picker_pushParts_82 : decode prog_7_method_6_code 82 = .ok (.iload_n 3, 1) := by decide +kernel
theorem gd_Picker_pushParts_83 : decode prog_7_method_6_code 83 = .ok (.if_icmp .ne 19, 3) := by decide +kernel
theorem gd_Picker_pushParts_86 : decode prog_7_method_6_code 86 = .ok (.aload_n 0, 1) := by decide +kernel
theorem gd_Picker_pushParts_87 : decode prog_7_method_6_code 87 = .ok (.getfield 37, 3) := by decide +kernel
theorem gd_Picker_pushParts_90 : decode prog_7_method_6_code 90 = .ok (.iload 7, 2) := by decide +kernel
theorem gd_Picker_pushParts_92 : decode prog_7_method_6_code 92 = .ok (.iaload, 1) := by decide +kernel
theorem gd_Picker_pushParts_93 : decode prog_7_method_6_code 93 = .ok (.iload 4, 2) := by decide +kernel
theorem gd_Picker_pushParts_95 : decode prog_7_method_6_code 95 = .ok (.if_icmp .ne 7, 3) := by decide +kernel
theorem gd_Picker_pushParts_98 : decode prog_7_method_6_code 98 = .ok (.iconst 1, 1) := by decide +kernel
theorem gd_Picker_pushParts_99 : decode prog_7_method_6_code 99 = .ok (.goto 4, 3) := by decide +kernel
theorem gd_Picker_pushParts_102 : decode prog_7_method_6_code 102 = .ok (.iconst 0, 1) := by decide +kernel
theorem gd_Picker_pushParts_103 : decode prog_7_method_6_code 103 = .ok (.istore 9, 2) := by decide +kernel
theorem gd_Picker_pushParts_105 : decode prog_7_method_6_code 105 = .ok (.aload_n 0, 1) := by decide +kernel
theorem gd_Picker_pushParts_106 : decode prog_7_method_6_code 106 = .ok (.getfield 43, 3) := by decide +kernel
theorem gd_Picker_pushParts_109 : decode prog_7_method_6_code 109 = .ok (.iload_n 1, 1) := by decide +kernel
theorem gd_Picker_pushParts_110 : decode prog_7_method_6_code 110 = .ok (.iload 7, 2) := by decide +kernel
theorem gd_Picker_pushParts_112 : decode prog_7_method_6_code 112 = .ok (.invokevirtual 133, 3) := by decide +kernel
theorem gd_Picker_pushParts_115 : decode prog_7_method_6_code 115 = .ok (.istore 10, 2) := by decide +kernel
theorem gd_Picker_pushParts_117 : decode prog_7_method_6_code 117 = .ok (.aload_n 0, 1) := by decide +kernel
theorem gd_Picker_pushParts_118 : decode prog_7_method_6_code 118 = .ok (.iload 10, 2) := by decide +kernel
theorem gd_Picker_pushParts_120 : decode prog_7_method_6_code 120 = .ok (.iconst (-1), 1) := by decide +kernel
theorem gd_Picker_pushParts_121 : decode prog_7_method_6_code 121 = .ok (.if_icmp .eq 8, 3) := by decide +kernel
theorem gd_Picker_pushParts_124 : decode prog_7_method_6_code 124 = .ok (.iload 10, 2) := by decide +kernel
theorem gd_Picker_pushParts_126 : decode prog_7_method_6_code 126 = .ok (.goto 14, 3) := by decide +kernel
theorem gd_Picker_pushParts_129 : decode prog_7_method_6_code 129 = .ok (.iconst (-1), 1) := by decide +kernel
theorem gd_Picker_pushParts_130 : decode prog_7_method_6_code 130 = .ok (.aload_n 0, 1) := by decide +kernel
theorem gd_Picker_pushParts_131 : decode prog_7_method_6_code 131 = .ok (.getfield 47, 3) := by decide +kernel
theorem gd_Picker_pushParts_134 : decode prog_7_method_6_code 134 = .ok (.iload 8, 2) := by decide +kernel
theorem gd_Picker_pushParts_136 : decode prog_7_method_6_code 136 = .ok (.invokevirtual 136, 3) := by decide +kernel
theorem gd_Picker_pushParts_139 : decode prog_7_method_6_code 139 = .ok (.isub, 1) := by decide +kernel
theorem gd_Picker_pushParts_140 : decode prog_7_method_6_code 140 = .ok (.iload 8, 2) := by decide +kernel
theorem gd_Picker_pushParts_142 : decode prog_7_method_6_code 142 = .ok (.aload_n 0, 1) := by decide +kernel
theorem gd_Picker_pushParts_143 : decode prog_7_method_6_code 143 = .ok (.getfield 37, 3) := by decide +kernel
theorem gd_Picker_pushParts_146 : decode prog_7_method_6_code 146 = .ok (.iload 7, 2) := by decide +kernel
theorem gd_Picker_pushParts_148 : decode prog_7_method_6_code 148 = .ok (.iaload, 1) := by decide +kernel
theorem gd_Picker_pushParts_149 : decode prog_7_method_6_code 149 = .ok (.iload 9, 2) := by decide +kernel
theorem gd_Picker_pushParts_151 : decode prog_7_method_6_code 151 = .ok (.ifCond .eq 8, 3) := by decide +kernel
theorem gd_Picker_pushParts_154 : decode prog_7_method_6_code 154 = .ok (.iload 5, 2) := by decide +kernel
theorem gd_Picker_pushParts_156 : decode prog_7_method_6_code 156 = .ok (.goto 4, 3) := by decide +kernel
theorem gd_Picker_pushParts_159 : decode prog_7_method_6_code 159 = .ok (.iconst 0, 1) := by decide +kernel
theorem gd_Picker_pushParts_160 : decode prog_7_method_6_code 160 = .ok (.iload 6, 2) := by decide +kernel
theorem gd_Picker_pushParts_162 : decode prog_7_method_6_code 162 = .ok (.aload_n 0, 1) := by decide +kernel
theorem gd_Picker_pushParts_163 : decode prog_7_method_6_code 163 = .ok (.getfield 40, 3) := by decide +kernel
theorem gd_Picker_pushParts_166 : decode prog_7_method_6_code 166 = .ok (.iload 7, 2) := by decide +kernel
theorem gd_Picker_pushParts_168 : decode prog_7_method_6_code 168 = .ok (.laload, 1) := by decide +kernel
theorem gd_Picker_pushParts_169 : decode prog_7_method_6_code 169 = .ok (.invokevirtual 67, 3) := by decide +kernel
theorem gd_Picker_pushParts_172 : decode prog_7_method_6_code 172 = .ok (.iinc 7 (-1), 3) := by decide +kernel
theorem gd_Picker_pushParts_175 : decode prog_7_method_6_code 175 = .ok (.goto (-120), 3) := by decide +kernel
theorem gd_Picker_pushParts_178 : decode prog_7_method_6_code 178 = .ok (.return_, 1) := by decide +kernel
theorem gd_Text_letterAt_0 : decode prog_11_method_3_code 0 = .ok (.iload_n 1, 1) := by decide +kernel
theorem gd_Text_letterAt_1 : decode prog_11_method_3_code 1 = .ok (.ifCond .lt 20, 3) := by decide +kernel
theorem gd_Text_letterAt_4 : decode prog_11_method_3_code 4 = .ok (.iload_n 1, 1) := by decide +kernel
theorem gd_Text_letterAt_5 : decode prog_11_method_3_code 5 = .ok (.aload_n 0, 1) := by decide +kernel
theorem gd_Text_letterAt_6 : decode prog_11_method_3_code 6 = .ok (.getfield 29, 3) := by decide +kernel
theorem gd_Text_letterAt_9 : decode prog_11_method_3_code 9 = .ok (.if_icmp .ge 12, 3) := by decide +kernel
theorem gd_Text_letterAt_12 : decode prog_11_method_3_code 12 = .ok (.aload_n 0, 1) := by decide +kernel
theorem gd_Text_letterAt_13 : decode prog_11_method_3_code 13 = .ok (.getfield 9, 3) := by decide +kernel
theorem gd_Text_letterAt_16 : decode prog_11_method_3_code 16 = .ok (.iload_n 1, 1) := by decide +kernel
theorem gd_Text_letterAt_17 : decode prog_11_method_3_code 17 = .ok (.iaload, 1) := by decide +kernel
theorem gd_Text_letterAt_18 : decode prog_11_method_3_code 18 = .ok (.goto 4, 3) := by decide +kernel
theorem gd_Text_letterAt_21 : decode prog_11_method_3_code 21 = .ok (.iconst (-1), 1) := by decide +kernel
theorem gd_Text_letterAt_22 : decode prog_11_method_3_code 22 = .ok (.ireturn, 1) := by decide +kernel
theorem gd_Law_isTreeWell_0 : decode method_7_code 0 = .ok (.aload_n 0, 1) := by decide +kernel
theorem gd_Law_isTreeWell_1 : decode method_7_code 1 = .ok (.lload_n 1, 1) := by decide +kernel
theorem gd_Law_isTreeWell_2 : decode method_7_code 2 = .ok (.invokevirtual 54, 3) := by decide +kernel
theorem gd_Law_isTreeWell_5 : decode method_7_code 5 = .ok (.istore 5, 2) := by decide +kernel
theorem gd_Law_isTreeWell_7 : decode method_7_code 7 = .ok (.iload 5, 2) := by decide +kernel
theorem gd_Law_isTreeWell_9 : decode method_7_code 9 = .ok (.sipush (-1004), 3) := by decide +kernel
theorem gd_Law_isTreeWell_12 : decode method_7_code 12 = .ok (.if_icmp .ne 5, 3) := by decide +kernel
theorem gd_Law_isTreeWell_15 : decode method_7_code 15 = .ok (.iconst 1, 1) := by decide +kernel
theorem gd_Law_isTreeWell_16 : decode method_7_code 16 = .ok (.ireturn, 1) := by decide +kernel
theorem gd_Law_isTreeWell_17 : decode method_7_code 17 = .ok (.iconst 0, 1) := by decide +kernel
theorem gd_Law_isTreeWell_18 : decode method_7_code 18 = .ok (.istore 6, 2) := by decide +kernel
theorem gd_Law_isTreeWell_20 : decode method_7_code 20 = .ok (.iload 5, 2) := by decide +kernel
theorem gd_Law_isTreeWell_22 : decode method_7_code 22 = .ok (.ifCond .le 38, 3) := by decide +kernel
theorem gd_Law_isTreeWell_25 : decode method_7_code 25 = .ok (.aload_n 0, 1) := by decide +kernel
theorem gd_Law_isTreeWell_26 : decode method_7_code 26 = .ok (.bipush 6, 2) := by decide +kernel
theorem gd_Law_isTreeWell_28 : decode method_7_code 28 = .ok (.invokevirtual 58, 3) := by decide +kernel
theorem gd_Law_isTreeWell_31 : decode method_7_code 31 = .ok (.iload 5, 2) := by decide +kernel
theorem gd_Law_isTreeWell_33 : decode method_7_code 33 = .ok (.if_icmp .ne 27, 3) := by decide +kernel
theorem gd_Law_isTreeWell_36 : decode method_7_code 36 = .ok (.aload_n 0, 1) := by decide +kernel
theorem gd_Law_isTreeWell_37 : decode method_7_code 37 = .ok (.invokevirtual 61, 3) := by decide +kernel
theorem gd_Law_isTreeWell_40 : decode method_7_code 40 = .ok (.iconst 1, 1) := by decide +kernel
theorem gd_Law_isTreeWell_41 : decode method_7_code 41 = .ok (.if_icmp .lt 19, 3) := by decide +kernel
theorem gd_Law_isTreeWell_44 : decode method_7_code 44 = .ok (.aload_n 0, 1) := by decide +kernel
theorem gd_Law_isTreeWell_45 : decode method_7_code 45 = .ok (.iload 5, 2) := by decide +kernel
theorem gd_Law_isTreeWell_47 : decode method_7_code 47 = .ok (.invokevirtual 65, 3) := by decide +kernel
theorem gd_Law_isTreeWell_50 : decode method_7_code 50 = .ok (.sipush (-1001), 3) := by decide +kernel
theorem gd_Law_isTreeWell_53 : decode method_7_code 53 = .ok (.if_icmp .ne 7, 3) := by decide +kernel
theorem gd_Law_isTreeWell_56 : decode method_7_code 56 = .ok (.iconst 1, 1) := by decide +kernel
theorem gd_Law_isTreeWell_57 : decode method_7_code 57 = .ok (.goto 4, 3) := by decide +kernel
theorem gd_Law_isTreeWell_60 : decode method_7_code 60 = .ok (.iconst 0, 1) := by decide +kernel
theorem gd_Law_isTreeWell_61 : decode method_7_code 61 = .ok (.istore 7, 2) := by decide +kernel
theorem gd_Law_isTreeWell_63 : decode method_7_code 63 = .ok (.aload 4, 2) := by decide +kernel
theorem gd_Law_isTreeWell_65 : decode method_7_code 65 = .ok (.iconst 0, 1) := by decide +kernel
theorem gd_Law_isTreeWell_66 : decode method_7_code 66 = .ok (.iload 5, 2) := by decide +kernel
theorem gd_Law_isTreeWell_68 : decode method_7_code 68 = .ok (.iastore, 1) := by decide +kernel
theorem gd_Law_isTreeWell_69 : decode method_7_code 69 = .ok (.iconst 0, 1) := by decide +kernel
theorem gd_Law_isTreeWell_70 : decode method_7_code 70 = .ok (.istore 8, 2) := by decide +kernel
theorem gd_Law_isTreeWell_72 : decode method_7_code 72 = .ok (.iload 8, 2) := by decide +kernel
theorem gd_Law_isTreeWell_74 : decode method_7_code 74 = .ok (.iload 5, 2) := by decide +kernel
theorem gd_Law_isTreeWell_76 : decode method_7_code 76 = .ok (.if_icmp .ge 107, 3) := by decide +kernel
theorem gd_Law_isTreeWell_79 : decode method_7_code 79 = .ok (.iload 7, 2) := by decide +kernel
theorem gd_Law_isTreeWell_81 : decode method_7_code 81 = .ok (.ifCond .eq 102, 3) := by decide +kernel
theorem gd_Law_isTreeWell_84 : decode method_7_code 84 = .ok (.aload_n 0, 1) := by decide +kernel
theorem gd_Law_isTreeWell_85 : decode method_7_code 85 = .ok (.iload 8, 2) := by decide +kernel
theorem gd_Law_isTreeWell_87 : decode method_7_code 87 = .ok (.invokevirtual 65, 3) := by decide +kernel
theorem gd_Law_isTreeWell_90 : decode method_7_code 90 = .ok (.istore 9, 2) := by decide +kernel
theorem gd_Law_isTreeWell_92 : decode method_7_code 92 = .ok (.iload 8, 2) := by decide +kernel
theorem gd_Law_isTreeWell_94 : decode method_7_code 94 = .ok (.bipush 63, 2) := by decide +kernel
theorem gd_Law_isTreeWell_96 : decode method_7_code 96 = .ok (.if_icmp .ge 12, 3) := by decide +kernel
theorem gd_Law_isTreeWell_99 : decode method_7_code 99 = .ok (.aload 4, 2) := by decide +kernel
theorem gd_Law_isTreeWell_101 : decode method_7_code 101 = .ok (.iload 8, 2) := by decide +kernel
theorem gd_Law_isTreeWell_103 : decode method_7_code 103 = .ok (.iconst 1, 1) := by decide +kernel
theorem gd_Law_isTreeWell_104 : decode method_7_code 104 = .ok (.iadd, 1) := by decide +kernel
theorem gd_Law_isTreeWell_105 : decode method_7_code 105 = .ok (.iload 9, 2) := by decide +kernel
theorem gd_Law_isTreeWell_107 : decode method_7_code 107 = .ok (.iastore, 1) := by decide +kernel
theorem gd_Law_isTreeWell_108 : decode method_7_code 108 = .ok (.iload 9, 2) := by decide +kernel
theorem gd_Law_isTreeWell_110 : decode method_7_code 110 = .ok (.ifCond .ge 35, 3) := by decide +kernel
theorem gd_Law_isTreeWell_113 : decode method_7_code 113 = .ok (.iload 6, 2) := by decide +kernel
theorem gd_Law_isTreeWell_115 : decode method_7_code 115 = .ok (.iload_n 3, 1) := by decide +kernel
theorem gd_Law_isTreeWell_116 : decode method_7_code 116 = .ok (.if_icmp .ge 20, 3) := by decide +kernel
theorem gd_Law_isTreeWell_119 : decode method_7_code 119 = .ok (.aload_n 0, 1) := by decide +kernel
theorem gd_Law_isTreeWell_120 : decode method_7_code 120 = .ok (.iload 6, 2) := by decide +kernel
theorem gd_Law_isTreeWell_122 : decode method_7_code 122 = .ok (.invokevirtual 37, 3) := by decide +kernel
theorem gd_Law_isTreeWell_125 : decode method_7_code 125 = .ok (.iconst (-1), 1) := by decide +kernel
theorem gd_Law_isTreeWell_126 : decode method_7_code 126 = .ok (.iload 9, 2) := by decide +kernel
theorem gd_Law_isTreeWell_128 : decode method_7_code 128 = .ok (.isub, 1) := by decide +kernel
theorem gd_Law_isTreeWell_129 : decode method_7_code 129 = .ok (.if_icmp .ne 7, 3) := by decide +kernel
theorem gd_Law_isTreeWell_132 : decode method_7_code 132 = .ok (.iconst 1, 1) := by decide +kernel
theorem gd_Law_isTreeWell_133 : decode method_7_code 133 = .ok (.goto 4, 3) := by decide +kernel
theorem gd_Law_isTreeWell_136 : decode method_7_code 136 = .ok (.iconst 0, 1) := by decide +kernel
theorem gd_Law_isTreeWell_137 : decode method_7_code 137 = .ok (.istore 7, 2) := by decide +kernel
theorem gd_Law_isTreeWell_139 : decode method_7_code 139 = .ok (.iinc 6 1, 3) := by decide +kernel
theorem gd_Law_isTreeWell_142 : decode method_7_code 142 = .ok (.goto 35, 3) := by decide +kernel
theorem gd_Law_isTreeWell_145 : decode method_7_code 145 = .ok (.aload_n 0, 1) := by decide +kernel
theorem gd_Law_isTreeWell_146 : decode method_7_code 146 = .ok (.iload 9, 2) := by decide +kernel
theorem gd_Law_isTreeWell_148 : decode method_7_code 148 = .ok (.iconst 0, 1) := by decide +kernel
theorem gd_Law_isTreeWell_149 : decode method_7_code 149 = .ok (.invokevirtual 68, 3) := by decide +kernel
theorem gd_Law_isTreeWell_152 : decode method_7_code 152 = .ok (.ifCond .lt 22, 3) := by decide +kernel
theorem gd_Law_isTreeWell_155 : decode method_7_code 155 = .ok (.iload 8, 2) := by decide +kernel
theorem gd_Law_isTreeWell_157 : decode method_7_code 157 = .ok (.ifCond .gt 13, 3) := by decide +kernel
theorem gd_Law_isTreeWell_160 : decode method_7_code 160 = .ok (.aload_n 0, 1) := by decide +kernel
theorem gd_Law_isTreeWell_161 : decode method_7_code 161 = .ok (.iload 9, 2) := by decide +kernel
theorem gd_Law_isTreeWell_163 : decode method_7_code 163 = .ok (.iconst 0, 1) := by decide +kernel
theorem gd_Law_isTreeWell_164 : decode method_7_code 164 = .ok (.invokevirtual 68, 3) := by decide +kernel
theorem gd_Law_isTreeWell_167 : decode method_7_code 167 = .ok (.ifCond .ne 7, 3) := by decide +kernel
theorem gd_Law_isTreeWell_170 : decode method_7_code 170 = .ok (.iconst 1, 1) := by decide +kernel
theorem gd_Law_isTreeWell_171 : decode method_7_code 171 = .ok (.goto 4, 3) := by decide +kernel
theorem gd_Law_isTreeWell_174 : decode method_7_code 174 = .ok (.iconst 0, 1) := by decide +kernel
theorem gd_Law_isTreeWell_175 : decode method_7_code 175 = .ok (.istore 7, 2) := by decide +kernel
theorem gd_Law_isTreeWell_177 : decode method_7_code 177 = .ok (.iinc 8 1, 3) := by decide +kernel
theorem gd_Law_isTreeWell_180 : decode method_7_code 180 = .ok (.goto (-108), 3) := by decide +kernel
theorem gd_Law_isTreeWell_183 : decode method_7_code 183 = .ok (.iload 7, 2) := by decide +kernel
theorem gd_Law_isTreeWell_185 : decode method_7_code 185 = .ok (.ifCond .eq 13, 3) := by decide +kernel
theorem gd_Law_isTreeWell_188 : decode method_7_code 188 = .ok (.iload 6, 2) := by decide +kernel
theorem gd_Law_isTreeWell_190 : decode method_7_code 190 = .ok (.iload_n 3, 1) := by decide +kernel
theorem gd_Law_isTreeWell_191 : decode method_7_code 191 = .ok (.if_icmp .ne 7, 3) := by decide +kernel
theorem gd_Law_isTreeWell_194 : decode method_7_code 194 = .ok (.iconst 1, 1) := by decide +kernel
theorem gd_Law_isTreeWell_195 : decode method_7_code 195 = .ok (.goto 4, 3) := by decide +kernel
theorem gd_Law_isTreeWell_198 : decode method_7_code 198 = .ok (.iconst 0, 1) := by decide +kernel
theorem gd_Law_isTreeWell_199 : decode method_7_code 199 = .ok (.ireturn, 1) := by decide +kernel
theorem gd_House_deep_0 : decode prog_1_method_29_code 0 = .ok (.aload_n 0, 1) := by decide +kernel
theorem gd_House_deep_1 : decode prog_1_method_29_code 1 = .ok (.getfield 129, 3) := by decide +kernel
theorem gd_House_deep_4 : decode prog_1_method_29_code 4 = .ok (.ifCond .eq 23, 3) := by decide +kernel
theorem gd_House_deep_7 : decode prog_1_method_29_code 7 = .ok (.aload_n 0, 1) := by decide +kernel
theorem gd_House_deep_8 : decode prog_1_method_29_code 8 = .ok (.getfield 80, 3) := by decide +kernel
theorem gd_House_deep_11 : decode prog_1_method_29_code 11 = .ok (.getfield 159, 3) := by decide +kernel
theorem gd_House_deep_14 : decode prog_1_method_29_code 14 = .ok (.ifCond .le 13, 3) := by decide +kernel
theorem gd_House_deep_17 : decode prog_1_method_29_code 17 = .ok (.aload_n 0, 1) := by decide +kernel
theorem gd_House_deep_18 : decode prog_1_method_29_code 18 = .ok (.getfield 80, 3) := by decide +kernel
theorem gd_House_deep_21 : decode prog_1_method_29_code 21 = .ok (.getfield 268, 3) := by decide +kernel
theorem gd_House_deep_24 : decode prog_1_method_29_code 24 = .ok (.goto 6, 3) := by decide +kernel
theorem gd_House_deep_27 : decode prog_1_method_29_code 27 = .ok (.sipush (-1003), 3) := by decide +kernel
theorem gd_House_deep_30 : decode prog_1_method_29_code 30 = .ok (.ireturn, 1) := by decide +kernel
theorem gd_House_step_0 : decode prog_1_method_28_code 0 = .ok (.aload_n 0, 1) := by decide +kernel
theorem gd_House_step_1 : decode prog_1_method_28_code 1 = .ok (.getfield 129, 3) := by decide +kernel
theorem gd_House_step_4 : decode prog_1_method_28_code 4 = .ok (.ifCond .eq 13, 3) := by decide +kernel
theorem gd_House_step_7 : decode prog_1_method_28_code 7 = .ok (.aload_n 0, 1) := by decide +kernel
theorem gd_House_step_8 : decode prog_1_method_28_code 8 = .ok (.getfield 80, 3) := by decide +kernel
theorem gd_House_step_11 : decode prog_1_method_28_code 11 = .ok (.getfield 159, 3) := by decide +kernel
theorem gd_House_step_14 : decode prog_1_method_28_code 14 = .ok (.ifCond .ne 7, 3) := by decide +kernel
theorem gd_House_step_17 : decode prog_1_method_28_code 17 = .ok (.sipush (-1003), 3) := by decide +kernel
theorem gd_House_step_20 : decode prog_1_method_28_code 20 = .ok (.ireturn, 1) := by decide +kernel
theorem gd_House_step_21 : decode prog_1_method_28_code 21 = .ok (.iload_n 1, 1) := by decide +kernel
theorem gd_House_step_22 : decode prog_1_method_28_code 22 = .ok (.ifCond .lt 14, 3) := by decide +kernel
theorem gd_House_step_25 : decode prog_1_method_28_code 25 = .ok (.iload_n 1, 1) := by decide +kernel
theorem gd_House_step_26 : decode prog_1_method_28_code 26 = .ok (.aload_n 0, 1) := by decide +kernel
theorem gd_House_step_27 : decode prog_1_method_28_code 27 = .ok (.getfield 80, 3) := by decide +kernel
theorem gd_House_step_30 : decode prog_1_method_28_code 30 = .ok (.getfield 159, 3) := by decide +kernel
theorem gd_House_step_33 : decode prog_1_method_28_code 33 = .ok (.if_icmp .lt 9, 3) := by decide +kernel
theorem gd_House_step_36 : decode prog_1_method_28_code 36 = .ok (.sipush (-1001), 3) := by decide +kernel
theorem gd_House_step_39 : decode prog_1_method_28_code 39 = .ok (.goto 12, 3) := by decide +kernel
theorem gd_House_step_42 : decode prog_1_method_28_code 42 = .ok (.aload_n 0, 1) := by decide +kernel
theorem gd_House_step_43 : decode prog_1_method_28_code 43 = .ok (.getfield 80, 3) := by decide +kernel
theorem gd_House_step_46 : decode prog_1_method_28_code 46 = .ok (.getfield 265, 3) := by decide +kernel
theorem gd_House_step_49 : decode prog_1_method_28_code 49 = .ok (.iload_n 1, 1) := by decide +kernel
theorem gd_House_step_50 : decode prog_1_method_28_code 50 = .ok (.iaload, 1) := by decide +kernel
theorem gd_House_step_51 : decode prog_1_method_28_code 51 = .ok (.ireturn, 1) := by decide +kernel
theorem gd_House_rule_0 : decode prog_1_method_10_code 0 = .ok (.aload_n 0, 1) := by decide +kernel
theorem gd_House_rule_1 : decode prog_1_method_10_code 1 = .ok (.getfield 129, 3) := by decide +kernel
theorem gd_House_rule_4 : decode prog_1_method_10_code 4 = .ok (.ifCond .eq 15, 3) := by decide +kernel
theorem gd_House_rule_7 : decode prog_1_method_10_code 7 = .ok (.aload_n 0, 1) := by decide +kernel
theorem gd_House_rule_8 : decode prog_1_method_10_code 8 = .ok (.iload_n 1, 1) := by decide +kernel
theorem gd_House_rule_9 : decode prog_1_method_10_code 9 = .ok (.invokevirtual 193, 3) := by decide +kernel
theorem gd_House_rule_12 : decode prog_1_method_10_code 12 = .ok (.ifCond .ne 7, 3) := by decide +kernel
theorem gd_House_rule_15 : decode prog_1_method_10_code 15 = .ok (.sipush (-1001), 3) := by decide +kernel
theorem gd_House_rule_18 : decode prog_1_method_10_code 18 = .ok (.ireturn, 1) := by decide +kernel
theorem gd_House_rule_19 : decode prog_1_method_10_code 19 = .ok (.iload_n 2, 1) := by decide +kernel
theorem gd_House_rule_20 : decode prog_1_method_10_code 20 = .ok (.ifCond .lt 8, 3) := by decide +kernel
theorem gd_House_rule_23 : decode prog_1_method_10_code 23 = .ok (.iload_n 2, 1) := by decide +kernel
theorem gd_House_rule_24 : decode prog_1_method_10_code 24 = .ok (.iconst 1, 1) := by decide +kernel
theorem gd_House_rule_25 : decode prog_1_method_10_code 25 = .ok (.if_icmp .le 7, 3) := by decide +kernel
theorem gd_House_rule_28 : decode prog_1_method_10_code 28 = .ok (.sipush (-1002), 3) := by decide +kernel
theorem gd_House_rule_31 : decode prog_1_method_10_code 31 = .ok (.ireturn, 1) := by decide +kernel
theorem gd_House_rule_32 : decode prog_1_method_10_code 32 = .ok (.aload_n 0, 1) := by decide +kernel
theorem gd_House_rule_33 : decode prog_1_method_10_code 33 = .ok (.getfield 129, 3) := by decide +kernel
theorem gd_House_rule_36 : decode prog_1_method_10_code 36 = .ok (.ifCond .ne 7, 3) := by decide +kernel
theorem gd_House_rule_39 : decode prog_1_method_10_code 39 = .ok (.sipush (-1003), 3) := by decide +kernel
theorem gd_House_rule_42 : decode prog_1_method_10_code 42 = .ok (.ireturn, 1) := by decide +kernel
theorem gd_House_rule_43 : decode prog_1_method_10_code 43 = .ok (.iload_n 2, 1) := by decide +kernel
theorem gd_House_rule_44 : decode prog_1_method_10_code 44 = .ok (.ifCond .ne 15, 3) := by decide +kernel
theorem gd_House_rule_47 : decode prog_1_method_10_code 47 = .ok (.aload_n 0, 1) := by decide +kernel
theorem gd_House_rule_48 : decode prog_1_method_10_code 48 = .ok (.getfield 28, 3) := by decide +kernel
theorem gd_House_rule_51 : decode prog_1_method_10_code 51 = .ok (.getfield 196, 3) := by decide +kernel
theorem gd_House_rule_54 : decode prog_1_method_10_code 54 = .ok (.iload_n 1, 1) := by decide +kernel
theorem gd_House_rule_55 : decode prog_1_method_10_code 55 = .ok (.iaload, 1) := by decide +kernel
theorem gd_House_rule_56 : decode prog_1_method_10_code 56 = .ok (.goto 12, 3) := by decide +kernel
theorem gd_House_rule_59 : decode prog_1_method_10_code 59 = .ok (.aload_n 0, 1) := by decide +kernel
theorem gd_House_rule_60 : decode prog_1_method_10_code 60 = .ok (.getfield 28, 3) := by decide +kernel
theorem gd_House_rule_63 : decode prog_1_method_10_code 63 = .ok (.getfield 199, 3) := by decide +kernel
theorem gd_House_rule_66 : decode prog_1_method_10_code 66 = .ok (.iload_n 1, 1) := by decide +kernel
theorem gd_House_rule_67 : decode prog_1_method_10_code 67 = .ok (.iaload, 1) := by decide +kernel
theorem gd_House_rule_68 : decode prog_1_method_10_code 68 = .ok (.ireturn, 1) := by decide +kernel
theorem gd_House_isRule_0 : decode prog_1_method_35_code 0 = .ok (.iload_n 1, 1) := by decide +kernel
theorem gd_House_isRule_1 : decode prog_1_method_35_code 1 = .ok (.ifCond .lt 18, 3) := by decide +kernel
theorem gd_House_isRule_4 : decode prog_1_method_35_code 4 = .ok (.iload_n 1, 1) := by decide +kernel
theorem gd_House_isRule_5 : decode prog_1_method_35_code 5 = .ok (.aload_n 0, 1) := by decide +kernel
theorem gd_House_isRule_6 : decode prog_1_method_35_code 6 = .ok (.getfield 28, 3) := by decide +kernel
theorem gd_House_isRule_9 : decode prog_1_method_35_code 9 = .ok (.getfield 140, 3) := by decide +kernel
theorem gd_House_isRule_12 : decode prog_1_method_35_code 12 = .ok (.if_icmp .ge 7, 3) := by decide +kernel
theorem gd_House_isRule_15 : decode prog_1_method_35_code 15 = .ok (.iconst 1, 1) := by decide +kernel
theorem gd_House_isRule_16 : decode prog_1_method_35_code 16 = .ok (.goto 4, 3) := by decide +kernel
theorem gd_House_isRule_19 : decode prog_1_method_35_code 19 = .ok (.iconst 0, 1) := by decide +kernel
theorem gd_House_isRule_20 : decode prog_1_method_35_code 20 = .ok (.ireturn, 1) := by decide +kernel
theorem gd_Law_law_0 : decode code 0 = .ok (.iconst 1, 1) := by decide +kernel
theorem gd_Law_law_1 : decode code 1 = .ok (.newarray .int, 2) := by decide +kernel
theorem gd_Law_law_3 : decode code 3 = .ok (.astore_n 1, 1) := by decide +kernel
theorem gd_Law_law_4 : decode code 4 = .ok (.bipush 64, 2) := by decide +kernel
theorem gd_Law_law_6 : decode code 6 = .ok (.newarray .int, 2) := by decide +kernel
theorem gd_Law_law_8 : decode code 8 = .ok (.astore_n 2, 1) := by decide +kernel
theorem gd_Law_law_9 : decode code 9 = .ok (.bipush 64, 2) := by decide +kernel
theorem gd_Law_law_11 : decode code 11 = .ok (.newarray .int, 2) := by decide +kernel
theorem gd_Law_law_13 : decode code 13 = .ok (.astore_n 3, 1) := by decide +kernel
theorem gd_Law_law_14 : decode code 14 = .ok (.new 8, 3) := by decide +kernel
theorem gd_Law_law_17 : decode code 17 = .ok (.dup, 1) := by decide +kernel
theorem gd_Law_law_18 : decode code 18 = .ok (.invokespecial 90, 3) := by decide +kernel
theorem gd_Law_law_21 : decode code 21 = .ok (.astore 4, 2) := by decide +kernel
theorem gd_Law_law_23 : decode code 23 = .ok (.aload 4, 2) := by decide +kernel
theorem gd_Law_law_25 : decode code 25 = .ok (.aload_n 0, 1) := by decide +kernel
theorem gd_Law_law_26 : decode code 26 = .ok (.aload_n 1, 1) := by decide +kernel
theorem gd_Law_law_27 : decode code 27 = .ok (.invokestatic 91, 3) := by decide +kernel
theorem gd_Law_law_30 : decode code 30 = .ok (.aload 4, 2) := by decide +kernel
theorem gd_Law_law_32 : decode code 32 = .ok (.invokevirtual 95, 3) := by decide +kernel
theorem gd_Law_law_35 : decode code 35 = .ok (.istore 5, 2) := by decide +kernel
theorem gd_Law_law_37 : decode code 37 = .ok (.iload 5, 2) := by decide +kernel
theorem gd_Law_law_39 : decode code 39 = .ok (.ifCond .ge 70, 3) := by decide +kernel
theorem gd_Law_law_42 : decode code 42 = .ok (.iload 5, 2) := by decide +kernel
theorem gd_Law_law_44 : decode code 44 = .ok (.bipush (-15), 2) := by decide +kernel
theorem gd_Law_law_46 : decode code 46 = .ok (.if_icmp .lt 61, 3) := by decide +kernel
theorem gd_Law_law_49 : decode code 49 = .ok (.iload 5, 2) := by decide +kernel
theorem gd_Law_law_51 : decode code 51 = .ok (.bipush (-11), 2) := by decide +kernel
theorem gd_Law_law_53 : decode code 53 = .ok (.if_icmp .gt 54, 3) := by decide +kernel
theorem gd_Law_law_56 : decode code 56 = .ok (.aload 4, 2) := by decide +kernel
theorem gd_Law_law_58 : decode code 58 = .ok (.iconst 0, 1) := by decide +kernel
theorem gd_Law_law_59 : decode code 59 = .ok (.invokevirtual 98, 3) := by decide +kernel
theorem gd_Law_law_62 : decode code 62 = .ok (.bipush (-10), 2) := by decide +kernel
theorem gd_Law_law_64 : decode code 64 = .ok (.iload 5, 2) := by decide +kernel
theorem gd_Law_law_66 : decode code 66 = .ok (.isub, 1) := by decide +kernel
theorem gd_Law_law_67 : decode code 67 = .ok (.if_icmp .ne 40, 3) := by decide +kernel
theorem gd_Law_law_70 : decode code 70 = .ok (.aload 4, 2) := by decide +kernel
theorem gd_Law_law_72 : decode code 72 = .ok (.iconst 1, 1) := by decide +kernel
theorem gd_Law_law_73 : decode code 73 = .ok (.invokevirtual 98, 3) := by decide +kernel
theorem gd_Law_law_76 : decode code 76 = .ok (.ifCond .lt 31, 3) := by decide +kernel
theorem gd_Law_law_79 : decode code 79 = .ok (.aload 4, 2) := by decide +kernel
theorem gd_Law_law_81 : decode code 81 = .ok (.iconst 0, 1) := by decide +kernel
theorem gd_Law_law_82 : decode code 82 = .ok (.invokevirtual 58, 3) := by decide +kernel
theorem gd_Law_law_85 : decode code 85 = .ok (.sipush (-1003), 3) := by decide +kernel
theorem gd_Law_law_88 : decode code 88 = .ok (.if_icmp .ne 19, 3) := by decide +kernel
theorem gd_Law_law_91 : decode code 91 = .ok (.aload 4, 2) := by decide +kernel
theorem gd_Law_law_93 : decode code 93 = .ok (.iconst 0, 1) := by decide +kernel
theorem gd_Law_law_94 : decode code 94 = .ok (.invokevirtual 101, 3) := by decide +kernel
theorem gd_Law_law_97 : decode code 97 = .ok (.sipush (-1003), 3) := by decide +kernel
theorem gd_Law_law_100 : decode code 100 = .ok (.if_icmp .ne 7, 3) := by decide +kernel
theorem gd_Law_law_103 : decode code 103 = .ok (.iconst 1, 1) := by decide +kernel
theorem gd_Law_law_104 : decode code 104 = .ok (.goto 4, 3) := by decide +kernel
theorem gd_Law_law_107 : decode code 107 = .ok (.iconst 0, 1) := by decide +kernel
theorem gd_Law_law_108 : decode code 108 = .ok (.ireturn, 1) := by decide +kernel
theorem gd_Law_law_109 : decode code 109 = .ok (.iload 5, 2) := by decide +kernel
theorem gd_Law_law_111 : decode code 111 = .ok (.aload 4, 2) := by decide +kernel
theorem gd_Law_law_113 : decode code 113 = .ok (.iconst 2, 1) := by decide +kernel
theorem gd_Law_law_114 : decode code 114 = .ok (.invokevirtual 58, 3) := by decide +kernel
theorem gd_Law_law_117 : decode code 117 = .ok (.if_icmp .ne 35, 3) := by decide +kernel
theorem gd_Law_law_120 : decode code 120 = .ok (.aload 4, 2) := by decide +kernel
theorem gd_Law_law_122 : decode code 122 = .ok (.iconst 0, 1) := by decide +kernel
theorem gd_Law_law_123 : decode code 123 = .ok (.invokevirtual 98, 3) := by decide +kernel
theorem gd_Law_law_126 : decode code 126 = .ok (.ifCond .ne 26, 3) := by decide +kernel
theorem gd_Law_law_129 : decode code 129 = .ok (.aload 4, 2) := by decide +kernel
theorem gd_Law_law_131 : decode code 131 = .ok (.iconst 1, 1) := by decide +kernel
theorem gd_Law_law_132 : decode code 132 = .ok (.invokevirtual 98, 3) := by decide +kernel
theorem gd_Law_law_135 : decode code 135 = .ok (.iconst (-1), 1) := by decide +kernel
theorem gd_Law_law_136 : decode code 136 = .ok (.if_icmp .ne 16, 3) := by decide +kernel
theorem gd_Law_law_139 : decode code 139 = .ok (.aload 4, 2) := by decide +kernel
theorem gd_Law_law_141 : decode code 141 = .ok (.iconst 4, 1) := by decide +kernel
theorem gd_Law_law_142 : decode code 142 = .ok (.invokevirtual 58, 3) := by decide +kernel
theorem gd_Law_law_145 : decode code 145 = .ok (.ifCond .ne 7, 3) := by decide +kernel
theorem gd_Law_law_148 : decode code 148 = .ok (.iconst 1, 1) := by decide +kernel
theorem gd_Law_law_149 : decode code 149 = .ok (.goto 4, 3) := by decide +kernel
theorem gd_Law_law_152 : decode code 152 = .ok (.iconst 0, 1) := by decide +kernel
theorem gd_Law_law_153 : decode code 153 = .ok (.istore 6, 2) := by decide +kernel
theorem gd_Law_law_155 : decode code 155 = .ok (.iconst 0, 1) := by decide +kernel
theorem gd_Law_law_156 : decode code 156 = .ok (.istore 7, 2) := by decide +kernel
theorem gd_Law_law_158 : decode code 158 = .ok (.iload 7, 2) := by decide +kernel
theorem gd_Law_law_160 : decode code 160 = .ok (.iconst 3, 1) := by decide +kernel
theorem gd_Law_law_161 : decode code 161 = .ok (.if_icmp .ge 154, 3) := by decide +kernel
theorem gd_Law_law_164 : decode code 164 = .ok (.iload 6, 2) := by decide +kernel
theorem gd_Law_law_166 : decode code 166 = .ok (.ifCond .eq 149, 3) := by decide +kernel
theorem gd_Law_law_169 : decode code 169 = .ok (.aload 4, 2) := by decide +kernel
theorem gd_Law_law_171 : decode code 171 = .ok (.aload_n 2, 1) := by decide +kernel
theorem gd_Law_law_172 : decode code 172 = .ok (.aload_n 3, 1) := by decide +kernel
theorem gd_Law_law_173 : decode code 173 = .ok (.invokestatic 104, 3) := by decide +kernel
theorem gd_Law_law_176 : decode code 176 = .ok (.istore 6, 2) := by decide +kernel
theorem gd_Law_law_178 : decode code 178 = .ok (.aload_n 0, 1) := by decide +kernel
theorem gd_Law_law_179 : decode code 179 = .ok (.aload_n 1, 1) := by decide +kernel
theorem gd_Law_law_180 : decode code 180 = .ok (.iconst 3, 1) := by decide +kernel
theorem gd_Law_law_181 : decode code 181 = .ok (.invokestatic 13, 3) := by decide +kernel
theorem gd_Law_law_184 : decode code 184 = .ok (.ifCond .ne 64, 3) := by decide +kernel
theorem gd_Law_law_187 : decode code 187 = .ok (.aload_n 0, 1) := by decide +kernel
theorem gd_Law_law_188 : decode code 188 = .ok (.aload_n 1, 1) := by decide +kernel
theorem gd_Law_law_189 : decode code 189 = .ok (.ldc 108, 2) := by decide +kernel
theorem gd_Law_law_191 : decode code 191 = .ok (.invokestatic 13, 3) := by decide +kernel
theorem gd_Law_law_194 : decode code 194 = .ok (.istore 8, 2) := by decide +kernel
theorem gd_Law_law_196 : decode code 196 = .ok (.aload 4, 2) := by decide +kernel
theorem gd_Law_law_198 : decode code 198 = .ok (.iload 8, 2) := by decide +kernel
theorem gd_Law_law_200 : decode code 200 = .ok (.invokevirtual 109, 3) := by decide +kernel
theorem gd_Law_law_203 : decode code 203 = .ok (.istore 9, 2) := by decide +kernel
theorem gd_Law_law_205 : decode code 205 = .ok (.iload 6, 2) := by decide +kernel
theorem gd_Law_law_207 : decode code 207 = .ok (.ifCond .eq 35, 3) := by decide +kernel
theorem gd_Law_law_210 : decode code 210 = .ok (.iload 9, 2) := by decide +kernel
theorem gd_Law_law_212 : decode code 212 = .ok (.iconst (-1), 1) := by decide +kernel
theorem gd_Law_law_213 : decode code 213 = .ok (.if_icmp .eq 25, 3) := by decide +kernel
theorem gd_Law_law_216 : decode code 216 = .ok (.iload 9, 2) := by decide +kernel
theorem gd_Law_law_218 : decode code 218 = .ok (.aload 4, 2) := by decide +kernel
theorem gd_Law_law_220 : decode code 220 = .ok (.iconst 4, 1) := by decide +kernel
theorem gd_Law_law_221 : decode code 221 = .ok (.invokevirtual 58, 3) := by decide +kernel
theorem gd_Law_law_224 : decode code 224 = .ok (.if_icmp .ne 18, 3) := by decide +kernel
theorem gd_Law_law_227 : decode code 227 = .ok (.aload 4, 2) := by decide +kernel
theorem gd_Law_law_229 : decode code 229 = .ok (.iload 9, 2) := by decide +kernel
theorem gd_Law_law_231 : decode code 231 = .ok (.invokevirtual 27, 3) := by decide +kernel
theorem gd_Law_law_234 : decode code 234 = .ok (.iconst 1, 1) := by decide +kernel
theorem gd_Law_law_235 : decode code 235 = .ok (.if_icmp .ne 7, 3) := by decide +kernel
theorem gd_Law_law_238 : decode code 238 = .ok (.iconst 1, 1) := by decide +kernel
theorem gd_Law_law_239 : decode code 239 = .ok (.goto 4, 3) := by decide +kernel
theorem gd_Law_law_242 : decode code 242 = .ok (.iconst 0, 1) := by decide +kernel
theorem gd_Law_law_243 : decode code 243 = .ok (.istore 6, 2) := by decide +kernel
theorem gd_Law_law_245 : decode code 245 = .ok (.goto 42, 3) := by decide +kernel
theorem gd_Law_law_248 : decode code 248 = .ok (.iconst 1, 1) := by decide +kernel
theorem gd_Law_law_249 : decode code 249 = .ok (.aload_n 0, 1) := by decide +kernel
theorem gd_Law_law_250 : decode code 250 = .ok (.aload_n 1, 1) := by decide +kernel
theorem gd_Law_law_251 : decode code 251 = .ok (.iconst 3, 1) := by decide +kernel
theorem gd_Law_law_252 : decode code 252 = .ok (.invokestatic 13, 3) := by decide +kernel
theorem gd_Law_law_255 : decode code 255 = .ok (.iadd, 1) := by decide +kernel
theorem gd_Law_law_256 : decode code 256 = .ok (.istore 8, 2) := by decide +kernel
theorem gd_Law_law_258 : decode code 258 = .ok (.iconst 0, 1) := by decide +kernel
theorem gd_Law_law_259 : decode code 259 = .ok (.istore 9, 2) := by decide +kernel
theorem gd_Law_law_261 : decode code 261 = .ok (.iload 9, 2) := by decide +kernel
theorem gd_Law_law_263 : decode code 263 = .ok (.iload 8, 2) := by decide +kernel
theorem gd_Law_law_265 : decode code 265 = .ok (.if_icmp .ge 22, 3) := by decide +kernel
theorem gd_Law_law_268 : decode code 268 = .ok (.aload 4, 2) := by decide +kernel
theorem gd_Law_law_270 : decode code 270 = .ok (.aload_n 0, 1) := by decide +kernel
theorem gd_Law_law_271 : decode code 271 = .ok (.aload_n 1, 1) := by decide +kernel
theorem gd_Law_law_272 : decode code 272 = .ok (.iconst 3, 1) := by decide +kernel
theorem gd_Law_law_273 : decode code 273 = .ok (.invokestatic 13, 3) := by decide +kernel
theorem gd_Law_law_276 : decode code 276 = .ok (.invokevirtual 101, 3) := by decide +kernel
theorem gd_Law_law_279 : decode code 279 = .ok (.istore 10, 2) := by decide +kernel
theorem gd_Law_law_281 : decode code 281 = .ok (.iinc 9 1, 3) := by decide +kernel
theorem gd_Law_law_284 : decode code 284 = .ok (.goto (-23), 3) := by decide +kernel
theorem gd_Law_law_287 : decode code 287 = .ok (.iload 6, 2) := by decide +kernel
theorem gd_Law_law_289 : decode code 289 = .ok (.ifCond .eq 17, 3) := by decide +kernel
theorem gd_Law_law_292 : decode code 292 = .ok (.aload 4, 2) := by decide +kernel
theorem gd_Law_law_294 : decode code 294 = .ok (.aload_n 2, 1) := by decide +kernel
theorem gd_Law_law_295 : decode code 295 = .ok (.aload_n 3, 1) := by decide +kernel
theorem gd_Law_law_296 : decode code 296 = .ok (.invokestatic 104, 3) := by decide +kernel
theorem gd_Law_law_299 : decode code 299 = .ok (.ifCond .eq 7, 3) := by decide +kernel
theorem gd_Law_law_302 : decode code 302 = .ok (.iconst 1, 1) := by decide +kernel
theorem gd_Law_law_303 : decode code 303 = .ok (.goto 4, 3) := by decide +kernel
theorem gd_Law_law_306 : decode code 306 = .ok (.iconst 0, 1) := by decide +kernel
theorem gd_Law_law_307 : decode code 307 = .ok (.istore 6, 2) := by decide +kernel
theorem gd_Law_law_309 : decode code 309 = .ok (.iinc 7 1, 3) := by decide +kernel
theorem gd_Law_law_312 : decode code 312 = .ok (.goto (-154), 3) := by decide +kernel
theorem gd_Law_law_315 : decode code 315 = .ok (.iload 6, 2) := by decide +kernel
theorem gd_Law_law_317 : decode code 317 = .ok (.ireturn, 1) := by decide +kernel
