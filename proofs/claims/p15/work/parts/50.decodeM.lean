theorem d_Mo_init_0 : decode b_Mo_init 0 = .ok (.aload_n 0, 1) := by decide +kernel
theorem d_Mo_init_1 : decode b_Mo_init 1 = .ok (.invokespecial 1, 3) := by decide +kernel
theorem d_Mo_init_4 : decode b_Mo_init 4 = .ok (.aload_n 0, 1) := by decide +kernel
theorem d_Mo_init_5 : decode b_Mo_init 5 = .ok (.bipush 16, 2) := by decide +kernel
theorem d_Mo_init_7 : decode b_Mo_init 7 = .ok (.newarray .int, 2) := by decide +kernel
theorem d_Mo_init_9 : decode b_Mo_init 9 = .ok (.putfield 7, 3) := by decide +kernel
theorem d_Mo_init_12 : decode b_Mo_init 12 = .ok (.aload_n 0, 1) := by decide +kernel
theorem d_Mo_init_13 : decode b_Mo_init 13 = .ok (.bipush 16, 2) := by decide +kernel
theorem d_Mo_init_15 : decode b_Mo_init 15 = .ok (.newarray .int, 2) := by decide +kernel
theorem d_Mo_init_17 : decode b_Mo_init 17 = .ok (.putfield 13, 3) := by decide +kernel
theorem d_Mo_init_20 : decode b_Mo_init 20 = .ok (.aload_n 0, 1) := by decide +kernel
theorem d_Mo_init_21 : decode b_Mo_init 21 = .ok (.bipush 16, 2) := by decide +kernel
theorem d_Mo_init_23 : decode b_Mo_init 23 = .ok (.newarray .long, 2) := by decide +kernel
theorem d_Mo_init_25 : decode b_Mo_init 25 = .ok (.putfield 16, 3) := by decide +kernel
theorem d_Mo_init_28 : decode b_Mo_init 28 = .ok (.aload_n 0, 1) := by decide +kernel
theorem d_Mo_init_29 : decode b_Mo_init 29 = .ok (.bipush 40, 2) := by decide +kernel
theorem d_Mo_init_31 : decode b_Mo_init 31 = .ok (.newarray .int, 2) := by decide +kernel
theorem d_Mo_init_33 : decode b_Mo_init 33 = .ok (.putfield 20, 3) := by decide +kernel
theorem d_Mo_init_36 : decode b_Mo_init 36 = .ok (.aload_n 0, 1) := by decide +kernel
theorem d_Mo_init_37 : decode b_Mo_init 37 = .ok (.bipush 40, 2) := by decide +kernel
theorem d_Mo_init_39 : decode b_Mo_init 39 = .ok (.newarray .int, 2) := by decide +kernel
theorem d_Mo_init_41 : decode b_Mo_init 41 = .ok (.putfield 23, 3) := by decide +kernel
theorem d_Mo_init_44 : decode b_Mo_init 44 = .ok (.aload_n 0, 1) := by decide +kernel
theorem d_Mo_init_45 : decode b_Mo_init 45 = .ok (.bipush 40, 2) := by decide +kernel
theorem d_Mo_init_47 : decode b_Mo_init 47 = .ok (.newarray .int, 2) := by decide +kernel
theorem d_Mo_init_49 : decode b_Mo_init 49 = .ok (.putfield 26, 3) := by decide +kernel
theorem d_Mo_init_52 : decode b_Mo_init 52 = .ok (.aload_n 0, 1) := by decide +kernel
theorem d_Mo_init_53 : decode b_Mo_init 53 = .ok (.bipush 40, 2) := by decide +kernel
theorem d_Mo_init_55 : decode b_Mo_init 55 = .ok (.newarray .long, 2) := by decide +kernel
theorem d_Mo_init_57 : decode b_Mo_init 57 = .ok (.putfield 29, 3) := by decide +kernel
theorem d_Mo_init_60 : decode b_Mo_init 60 = .ok (.aload_n 0, 1) := by decide +kernel
theorem d_Mo_init_61 : decode b_Mo_init 61 = .ok (.iconst 4, 1) := by decide +kernel
theorem d_Mo_init_62 : decode b_Mo_init 62 = .ok (.newarray .int, 2) := by decide +kernel
theorem d_Mo_init_64 : decode b_Mo_init 64 = .ok (.putfield 32, 3) := by decide +kernel
theorem d_Mo_init_67 : decode b_Mo_init 67 = .ok (.aload_n 0, 1) := by decide +kernel
theorem d_Mo_init_68 : decode b_Mo_init 68 = .ok (.bipush 40, 2) := by decide +kernel
theorem d_Mo_init_70 : decode b_Mo_init 70 = .ok (.newarray .int, 2) := by decide +kernel
theorem d_Mo_init_72 : decode b_Mo_init 72 = .ok (.putfield 35, 3) := by decide +kernel
theorem d_Mo_init_75 : decode b_Mo_init 75 = .ok (.aload_n 0, 1) := by decide +kernel
theorem d_Mo_init_76 : decode b_Mo_init 76 = .ok (.sipush 576, 3) := by decide +kernel
theorem d_Mo_init_79 : decode b_Mo_init 79 = .ok (.newarray .boolean, 2) := by decide +kernel
theorem d_Mo_init_81 : decode b_Mo_init 81 = .ok (.putfield 38, 3) := by decide +kernel
theorem d_Mo_init_84 : decode b_Mo_init 84 = .ok (.aload_n 0, 1) := by decide +kernel
theorem d_Mo_init_85 : decode b_Mo_init 85 = .ok (.sipush 2000, 3) := by decide +kernel
theorem d_Mo_init_88 : decode b_Mo_init 88 = .ok (.newarray .int, 2) := by decide +kernel
theorem d_Mo_init_90 : decode b_Mo_init 90 = .ok (.putfield 42, 3) := by decide +kernel
theorem d_Mo_init_93 : decode b_Mo_init 93 = .ok (.aload_n 0, 1) := by decide +kernel
theorem d_Mo_init_94 : decode b_Mo_init 94 = .ok (.bipush 16, 2) := by decide +kernel
theorem d_Mo_init_96 : decode b_Mo_init 96 = .ok (.newarray .int, 2) := by decide +kernel
theorem d_Mo_init_98 : decode b_Mo_init 98 = .ok (.putfield 45, 3) := by decide +kernel
theorem d_Mo_init_101 : decode b_Mo_init 101 = .ok (.aload_n 0, 1) := by decide +kernel
theorem d_Mo_init_102 : decode b_Mo_init 102 = .ok (.bipush 16, 2) := by decide +kernel
theorem d_Mo_init_104 : decode b_Mo_init 104 = .ok (.newarray .int, 2) := by decide +kernel
theorem d_Mo_init_106 : decode b_Mo_init 106 = .ok (.putfield 48, 3) := by decide +kernel
theorem d_Mo_init_109 : decode b_Mo_init 109 = .ok (.aload_n 0, 1) := by decide +kernel
theorem d_Mo_init_110 : decode b_Mo_init 110 = .ok (.bipush 16, 2) := by decide +kernel
theorem d_Mo_init_112 : decode b_Mo_init 112 = .ok (.newarray .int, 2) := by decide +kernel
theorem d_Mo_init_114 : decode b_Mo_init 114 = .ok (.putfield 51, 3) := by decide +kernel
theorem d_Mo_init_117 : decode b_Mo_init 117 = .ok (.aload_n 0, 1) := by decide +kernel
theorem d_Mo_init_118 : decode b_Mo_init 118 = .ok (.bipush 32, 2) := by decide +kernel
theorem d_Mo_init_120 : decode b_Mo_init 120 = .ok (.newarray .int, 2) := by decide +kernel
theorem d_Mo_init_122 : decode b_Mo_init 122 = .ok (.putfield 54, 3) := by decide +kernel
theorem d_Mo_init_125 : decode b_Mo_init 125 = .ok (.aload_n 0, 1) := by decide +kernel
theorem d_Mo_init_126 : decode b_Mo_init 126 = .ok (.bipush 32, 2) := by decide +kernel
theorem d_Mo_init_128 : decode b_Mo_init 128 = .ok (.newarray .int, 2) := by decide +kernel
theorem d_Mo_init_130 : decode b_Mo_init 130 = .ok (.putfield 57, 3) := by decide +kernel
theorem d_Mo_init_133 : decode b_Mo_init 133 = .ok (.aload_n 0, 1) := by decide +kernel
theorem d_Mo_init_134 : decode b_Mo_init 134 = .ok (.bipush 32, 2) := by decide +kernel
theorem d_Mo_init_136 : decode b_Mo_init 136 = .ok (.newarray .boolean, 2) := by decide +kernel
theorem d_Mo_init_138 : decode b_Mo_init 138 = .ok (.putfield 60, 3) := by decide +kernel
theorem d_Mo_init_141 : decode b_Mo_init 141 = .ok (.aload_n 0, 1) := by decide +kernel
theorem d_Mo_init_142 : decode b_Mo_init 142 = .ok (.bipush 16, 2) := by decide +kernel
theorem d_Mo_init_144 : decode b_Mo_init 144 = .ok (.newarray .int, 2) := by decide +kernel
theorem d_Mo_init_146 : decode b_Mo_init 146 = .ok (.putfield 63, 3) := by decide +kernel
theorem d_Mo_init_149 : decode b_Mo_init 149 = .ok (.aload_n 0, 1) := by decide +kernel
theorem d_Mo_init_150 : decode b_Mo_init 150 = .ok (.sipush 2000, 3) := by decide +kernel
theorem d_Mo_init_153 : decode b_Mo_init 153 = .ok (.newarray .int, 2) := by decide +kernel
theorem d_Mo_init_155 : decode b_Mo_init 155 = .ok (.putfield 66, 3) := by decide +kernel
theorem d_Mo_init_158 : decode b_Mo_init 158 = .ok (.aload_n 0, 1) := by decide +kernel
theorem d_Mo_init_159 : decode b_Mo_init 159 = .ok (.iconst (-1), 1) := by decide +kernel
theorem d_Mo_init_160 : decode b_Mo_init 160 = .ok (.putfield 69, 3) := by decide +kernel
theorem d_Mo_init_163 : decode b_Mo_init 163 = .ok (.aload_n 0, 1) := by decide +kernel
theorem d_Mo_init_164 : decode b_Mo_init 164 = .ok (.bipush 40, 2) := by decide +kernel
theorem d_Mo_init_166 : decode b_Mo_init 166 = .ok (.newarray .int, 2) := by decide +kernel
theorem d_Mo_init_168 : decode b_Mo_init 168 = .ok (.putfield 73, 3) := by decide +kernel
theorem d_Mo_init_171 : decode b_Mo_init 171 = .ok (.aload_n 0, 1) := by decide +kernel
theorem d_Mo_init_172 : decode b_Mo_init 172 = .ok (.bipush 40, 2) := by decide +kernel
theorem d_Mo_init_174 : decode b_Mo_init 174 = .ok (.newarray .int, 2) := by decide +kernel
theorem d_Mo_init_176 : decode b_Mo_init 176 = .ok (.putfield 76, 3) := by decide +kernel
theorem d_Mo_init_179 : decode b_Mo_init 179 = .ok (.aload_n 0, 1) := by decide +kernel
theorem d_Mo_init_180 : decode b_Mo_init 180 = .ok (.bipush 40, 2) := by decide +kernel
theorem d_Mo_init_182 : decode b_Mo_init 182 = .ok (.newarray .int, 2) := by decide +kernel
theorem d_Mo_init_184 : decode b_Mo_init 184 = .ok (.putfield 79, 3) := by decide +kernel
theorem d_Mo_init_187 : decode b_Mo_init 187 = .ok (.aload_n 0, 1) := by decide +kernel
theorem d_Mo_init_188 : decode b_Mo_init 188 = .ok (.bipush 40, 2) := by decide +kernel
theorem d_Mo_init_190 : decode b_Mo_init 190 = .ok (.newarray .long, 2) := by decide +kernel
theorem d_Mo_init_192 : decode b_Mo_init 192 = .ok (.putfield 82, 3) := by decide +kernel
theorem d_Mo_init_195 : decode b_Mo_init 195 = .ok (.aload_n 0, 1) := by decide +kernel
theorem d_Mo_init_196 : decode b_Mo_init 196 = .ok (.iconst 4, 1) := by decide +kernel
theorem d_Mo_init_197 : decode b_Mo_init 197 = .ok (.newarray .int, 2) := by decide +kernel
theorem d_Mo_init_199 : decode b_Mo_init 199 = .ok (.putfield 85, 3) := by decide +kernel
theorem d_Mo_init_202 : decode b_Mo_init 202 = .ok (.aload_n 0, 1) := by decide +kernel
theorem d_Mo_init_203 : decode b_Mo_init 203 = .ok (.iload_n 1, 1) := by decide +kernel
theorem d_Mo_init_204 : decode b_Mo_init 204 = .ok (.iconst 1, 1) := by decide +kernel
theorem d_Mo_init_205 : decode b_Mo_init 205 = .ok (.bipush 24, 2) := by decide +kernel
theorem d_Mo_init_207 : decode b_Mo_init 207 = .ok (.invokestatic 88, 3) := by decide +kernel
theorem d_Mo_init_210 : decode b_Mo_init 210 = .ok (.putfield 92, 3) := by decide +kernel
theorem d_Mo_init_213 : decode b_Mo_init 213 = .ok (.aload_n 0, 1) := by decide +kernel
theorem d_Mo_init_214 : decode b_Mo_init 214 = .ok (.iload_n 2, 1) := by decide +kernel
theorem d_Mo_init_215 : decode b_Mo_init 215 = .ok (.iconst 1, 1) := by decide +kernel
theorem d_Mo_init_216 : decode b_Mo_init 216 = .ok (.bipush 24, 2) := by decide +kernel
theorem d_Mo_init_218 : decode b_Mo_init 218 = .ok (.invokestatic 88, 3) := by decide +kernel
theorem d_Mo_init_221 : decode b_Mo_init 221 = .ok (.putfield 95, 3) := by decide +kernel
theorem d_Mo_init_224 : decode b_Mo_init 224 = .ok (.aload_n 0, 1) := by decide +kernel
theorem d_Mo_init_225 : decode b_Mo_init 225 = .ok (.iload_n 3, 1) := by decide +kernel
theorem d_Mo_init_226 : decode b_Mo_init 226 = .ok (.iconst 0, 1) := by decide +kernel
theorem d_Mo_init_227 : decode b_Mo_init 227 = .ok (.iconst 1, 1) := by decide +kernel
theorem d_Mo_init_228 : decode b_Mo_init 228 = .ok (.invokestatic 88, 3) := by decide +kernel
theorem d_Mo_init_231 : decode b_Mo_init 231 = .ok (.putfield 98, 3) := by decide +kernel
theorem d_Mo_init_234 : decode b_Mo_init 234 = .ok (.return_, 1) := by decide +kernel
theorem d_Mo_thrown_0 : decode b_Mo_thrown 0 = .ok (.aload_n 0, 1) := by decide +kernel
theorem d_Mo_thrown_1 : decode b_Mo_thrown 1 = .ok (.getfield 101, 3) := by decide +kernel
theorem d_Mo_thrown_4 : decode b_Mo_thrown 4 = .ok (.ireturn, 1) := by decide +kernel
theorem d_Mo_within_0 : decode b_Mo_within 0 = .ok (.iload_n 0, 1) := by decide +kernel
theorem d_Mo_within_1 : decode b_Mo_within 1 = .ok (.iload_n 1, 1) := by decide +kernel
theorem d_Mo_within_2 : decode b_Mo_within 2 = .ok (.if_icmp .ge 7, 3) := by decide +kernel
theorem d_Mo_within_5 : decode b_Mo_within 5 = .ok (.iload_n 1, 1) := by decide +kernel
theorem d_Mo_within_6 : decode b_Mo_within 6 = .ok (.goto 13, 3) := by decide +kernel
theorem d_Mo_within_9 : decode b_Mo_within 9 = .ok (.iload_n 0, 1) := by decide +kernel
theorem d_Mo_within_10 : decode b_Mo_within 10 = .ok (.iload_n 2, 1) := by decide +kernel
theorem d_Mo_within_11 : decode b_Mo_within 11 = .ok (.if_icmp .le 7, 3) := by decide +kernel
theorem d_Mo_within_14 : decode b_Mo_within 14 = .ok (.iload_n 2, 1) := by decide +kernel
theorem d_Mo_within_15 : decode b_Mo_within 15 = .ok (.goto 4, 3) := by decide +kernel
theorem d_Mo_within_18 : decode b_Mo_within 18 = .ok (.iload_n 0, 1) := by decide +kernel
theorem d_Mo_within_19 : decode b_Mo_within 19 = .ok (.ireturn, 1) := by decide +kernel
theorem d_Mo_isIn_0 : decode b_Mo_isIn 0 = .ok (.iload_n 0, 1) := by decide +kernel
theorem d_Mo_isIn_1 : decode b_Mo_isIn 1 = .ok (.iload_n 1, 1) := by decide +kernel
theorem d_Mo_isIn_2 : decode b_Mo_isIn 2 = .ok (.if_icmp .lt 12, 3) := by decide +kernel
theorem d_Mo_isIn_5 : decode b_Mo_isIn 5 = .ok (.iload_n 0, 1) := by decide +kernel
theorem d_Mo_isIn_6 : decode b_Mo_isIn 6 = .ok (.iload_n 2, 1) := by decide +kernel
theorem d_Mo_isIn_7 : decode b_Mo_isIn 7 = .ok (.if_icmp .gt 7, 3) := by decide +kernel
theorem d_Mo_isIn_10 : decode b_Mo_isIn 10 = .ok (.iconst 1, 1) := by decide +kernel
theorem d_Mo_isIn_11 : decode b_Mo_isIn 11 = .ok (.goto 4, 3) := by decide +kernel
theorem d_Mo_isIn_14 : decode b_Mo_isIn 14 = .ok (.iconst 0, 1) := by decide +kernel
theorem d_Mo_isIn_15 : decode b_Mo_isIn 15 = .ok (.ireturn, 1) := by decide +kernel
theorem d_Mo_symbol_0 : decode b_Mo_symbol 0 = .ok (.aload_n 0, 1) := by decide +kernel
theorem d_Mo_symbol_1 : decode b_Mo_symbol 1 = .ok (.iload_n 1, 1) := by decide +kernel
theorem d_Mo_symbol_2 : decode b_Mo_symbol 2 = .ok (.iconst 1, 1) := by decide +kernel
theorem d_Mo_symbol_3 : decode b_Mo_symbol 3 = .ok (.bipush 8, 2) := by decide +kernel
theorem d_Mo_symbol_5 : decode b_Mo_symbol 5 = .ok (.invokestatic 104, 3) := by decide +kernel
theorem d_Mo_symbol_8 : decode b_Mo_symbol 8 = .ok (.ifCond .eq 13, 3) := by decide +kernel
theorem d_Mo_symbol_11 : decode b_Mo_symbol 11 = .ok (.iload_n 2, 1) := by decide +kernel
theorem d_Mo_symbol_12 : decode b_Mo_symbol 12 = .ok (.iconst 1, 1) := by decide +kernel
theorem d_Mo_symbol_13 : decode b_Mo_symbol 13 = .ok (.bipush 8, 2) := by decide +kernel
theorem d_Mo_symbol_15 : decode b_Mo_symbol 15 = .ok (.invokestatic 104, 3) := by decide +kernel
theorem d_Mo_symbol_18 : decode b_Mo_symbol 18 = .ok (.ifCond .ne 7, 3) := by decide +kernel
theorem d_Mo_symbol_21 : decode b_Mo_symbol 21 = .ok (.iconst 1, 1) := by decide +kernel
theorem d_Mo_symbol_22 : decode b_Mo_symbol 22 = .ok (.goto 17, 3) := by decide +kernel
theorem d_Mo_symbol_25 : decode b_Mo_symbol 25 = .ok (.aload_n 0, 1) := by decide +kernel
theorem d_Mo_symbol_26 : decode b_Mo_symbol 26 = .ok (.getfield 108, 3) := by decide +kernel
theorem d_Mo_symbol_29 : decode b_Mo_symbol 29 = .ok (.bipush 16, 2) := by decide +kernel
theorem d_Mo_symbol_31 : decode b_Mo_symbol 31 = .ok (.if_icmp .ne 7, 3) := by decide +kernel
theorem d_Mo_symbol_34 : decode b_Mo_symbol 34 = .ok (.iconst 2, 1) := by decide +kernel
theorem d_Mo_symbol_35 : decode b_Mo_symbol 35 = .ok (.goto 4, 3) := by decide +kernel
theorem d_Mo_symbol_38 : decode b_Mo_symbol 38 = .ok (.iconst 0, 1) := by decide +kernel
theorem d_Mo_symbol_39 : decode b_Mo_symbol 39 = .ok (.putfield 101, 3) := by decide +kernel
theorem d_Mo_symbol_42 : decode b_Mo_symbol 42 = .ok (.aload_n 0, 1) := by decide +kernel
theorem d_Mo_symbol_43 : decode b_Mo_symbol 43 = .ok (.getfield 101, 3) := by decide +kernel
theorem d_Mo_symbol_46 : decode b_Mo_symbol 46 = .ok (.ifCond .le 5, 3) := by decide +kernel
theorem d_Mo_symbol_49 : decode b_Mo_symbol 49 = .ok (.iconst 0, 1) := by decide +kernel
theorem d_Mo_symbol_50 : decode b_Mo_symbol 50 = .ok (.ireturn, 1) := by decide +kernel
theorem d_Mo_symbol_51 : decode b_Mo_symbol 51 = .ok (.aload_n 0, 1) := by decide +kernel
theorem d_Mo_symbol_52 : decode b_Mo_symbol 52 = .ok (.getfield 7, 3) := by decide +kernel
theorem d_Mo_symbol_55 : decode b_Mo_symbol 55 = .ok (.aload_n 0, 1) := by decide +kernel
theorem d_Mo_symbol_56 : decode b_Mo_symbol 56 = .ok (.getfield 108, 3) := by decide +kernel
theorem d_Mo_symbol_59 : decode b_Mo_symbol 59 = .ok (.iload_n 1, 1) := by decide +kernel
theorem d_Mo_symbol_60 : decode b_Mo_symbol 60 = .ok (.iastore, 1) := by decide +kernel
theorem d_Mo_symbol_61 : decode b_Mo_symbol 61 = .ok (.aload_n 0, 1) := by decide +kernel
theorem d_Mo_symbol_62 : decode b_Mo_symbol 62 = .ok (.getfield 13, 3) := by decide +kernel
theorem d_Mo_symbol_65 : decode b_Mo_symbol 65 = .ok (.aload_n 0, 1) := by decide +kernel
theorem d_Mo_symbol_66 : decode b_Mo_symbol 66 = .ok (.getfield 108, 3) := by decide +kernel
theorem d_Mo_symbol_69 : decode b_Mo_symbol 69 = .ok (.iload_n 2, 1) := by decide +kernel
theorem d_Mo_symbol_70 : decode b_Mo_symbol 70 = .ok (.iastore, 1) := by decide +kernel
theorem d_Mo_symbol_71 : decode b_Mo_symbol 71 = .ok (.aload_n 0, 1) := by decide +kernel
theorem d_Mo_symbol_72 : decode b_Mo_symbol 72 = .ok (.getfield 16, 3) := by decide +kernel
theorem d_Mo_symbol_75 : decode b_Mo_symbol 75 = .ok (.aload_n 0, 1) := by decide +kernel
theorem d_Mo_symbol_76 : decode b_Mo_symbol 76 = .ok (.getfield 108, 3) := by decide +kernel
theorem d_Mo_symbol_79 : decode b_Mo_symbol 79 = .ok (.lconst 0, 1) := by decide +kernel
theorem d_Mo_symbol_80 : decode b_Mo_symbol 80 = .ok (.lastore, 1) := by decide +kernel
theorem d_Mo_symbol_81 : decode b_Mo_symbol 81 = .ok (.aload_n 0, 1) := by decide +kernel
theorem d_Mo_symbol_82 : decode b_Mo_symbol 82 = .ok (.dup, 1) := by decide +kernel
theorem d_Mo_symbol_83 : decode b_Mo_symbol 83 = .ok (.getfield 108, 3) := by decide +kernel
theorem d_Mo_symbol_86 : decode b_Mo_symbol 86 = .ok (.iconst 1, 1) := by decide +kernel
theorem d_Mo_symbol_87 : decode b_Mo_symbol 87 = .ok (.iadd, 1) := by decide +kernel
theorem d_Mo_symbol_88 : decode b_Mo_symbol 88 = .ok (.putfield 108, 3) := by decide +kernel
theorem d_Mo_symbol_91 : decode b_Mo_symbol 91 = .ok (.aload_n 0, 1) := by decide +kernel
theorem d_Mo_symbol_92 : decode b_Mo_symbol 92 = .ok (.getfield 108, 3) := by decide +kernel
theorem d_Mo_symbol_95 : decode b_Mo_symbol 95 = .ok (.iconst 1, 1) := by decide +kernel
theorem d_Mo_symbol_96 : decode b_Mo_symbol 96 = .ok (.isub, 1) := by decide +kernel
theorem d_Mo_symbol_97 : decode b_Mo_symbol 97 = .ok (.ireturn, 1) := by decide +kernel
theorem d_Mo_isSample_0 : decode b_Mo_isSample 0 = .ok (.iload_n 2, 1) := by decide +kernel
theorem d_Mo_isSample_1 : decode b_Mo_isSample 1 = .ok (.iconst 0, 1) := by decide +kernel
theorem d_Mo_isSample_2 : decode b_Mo_isSample 2 = .ok (.aload_n 0, 1) := by decide +kernel
theorem d_Mo_isSample_3 : decode b_Mo_isSample 3 = .ok (.getfield 7, 3) := by decide +kernel
theorem d_Mo_isSample_6 : decode b_Mo_isSample 6 = .ok (.iload_n 1, 1) := by decide +kernel
theorem d_Mo_isSample_7 : decode b_Mo_isSample 7 = .ok (.iaload, 1) := by decide +kernel
theorem d_Mo_isSample_8 : decode b_Mo_isSample 8 = .ok (.iconst 1, 1) := by decide +kernel
theorem d_Mo_isSample_9 : decode b_Mo_isSample 9 = .ok (.isub, 1) := by decide +kernel
theorem d_Mo_isSample_10 : decode b_Mo_isSample 10 = .ok (.invokestatic 104, 3) := by decide +kernel
theorem d_Mo_isSample_13 : decode b_Mo_isSample 13 = .ok (.ifCond .eq 23, 3) := by decide +kernel
theorem d_Mo_isSample_16 : decode b_Mo_isSample 16 = .ok (.iload_n 3, 1) := by decide +kernel
theorem d_Mo_isSample_17 : decode b_Mo_isSample 17 = .ok (.iconst 0, 1) := by decide +kernel
theorem d_Mo_isSample_18 : decode b_Mo_isSample 18 = .ok (.aload_n 0, 1) := by decide +kernel
theorem d_Mo_isSample_19 : decode b_Mo_isSample 19 = .ok (.getfield 13, 3) := by decide +kernel
theorem d_Mo_isSample_22 : decode b_Mo_isSample 22 = .ok (.iload_n 1, 1) := by decide +kernel
theorem d_Mo_isSample_23 : decode b_Mo_isSample 23 = .ok (.iaload, 1) := by decide +kernel
theorem d_Mo_isSample_24 : decode b_Mo_isSample 24 = .ok (.iconst 1, 1) := by decide +kernel
theorem d_Mo_isSample_25 : decode b_Mo_isSample 25 = .ok (.isub, 1) := by decide +kernel
theorem d_Mo_isSample_26 : decode b_Mo_isSample 26 = .ok (.invokestatic 104, 3) := by decide +kernel
theorem d_Mo_isSample_29 : decode b_Mo_isSample 29 = .ok (.ifCond .eq 7, 3) := by decide +kernel
theorem d_Mo_isSample_32 : decode b_Mo_isSample 32 = .ok (.iconst 1, 1) := by decide +kernel
theorem d_Mo_isSample_33 : decode b_Mo_isSample 33 = .ok (.goto 4, 3) := by decide +kernel
theorem d_Mo_isSample_36 : decode b_Mo_isSample 36 = .ok (.iconst 0, 1) := by decide +kernel
theorem d_Mo_isSample_37 : decode b_Mo_isSample 37 = .ok (.ireturn, 1) := by decide +kernel
theorem d_Mo_put_0 : decode b_Mo_put 0 = .ok (.aload_n 0, 1) := by decide +kernel
theorem d_Mo_put_1 : decode b_Mo_put 1 = .ok (.iload_n 1, 1) := by decide +kernel
theorem d_Mo_put_2 : decode b_Mo_put 2 = .ok (.iconst 0, 1) := by decide +kernel
theorem d_Mo_put_3 : decode b_Mo_put 3 = .ok (.aload_n 0, 1) := by decide +kernel
theorem d_Mo_put_4 : decode b_Mo_put 4 = .ok (.getfield 108, 3) := by decide +kernel
theorem d_Mo_put_7 : decode b_Mo_put 7 = .ok (.iconst 1, 1) := by decide +kernel
theorem d_Mo_put_8 : decode b_Mo_put 8 = .ok (.isub, 1) := by decide +kernel
theorem d_Mo_put_9 : decode b_Mo_put 9 = .ok (.invokestatic 104, 3) := by decide +kernel
theorem d_Mo_put_12 : decode b_Mo_put 12 = .ok (.ifCond .eq 13, 3) := by decide +kernel
theorem d_Mo_put_15 : decode b_Mo_put 15 = .ok (.aload_n 0, 1) := by decide +kernel
theorem d_Mo_put_16 : decode b_Mo_put 16 = .ok (.iload_n 1, 1) := by decide +kernel
theorem d_Mo_put_17 : decode b_Mo_put 17 = .ok (.iload_n 2, 1) := by decide +kernel
theorem d_Mo_put_18 : decode b_Mo_put 18 = .ok (.iload_n 3, 1) := by decide +kernel
theorem d_Mo_put_19 : decode b_Mo_put 19 = .ok (.invokevirtual 111, 3) := by decide +kernel
theorem d_Mo_put_22 : decode b_Mo_put 22 = .ok (.ifCond .ne 7, 3) := by decide +kernel
theorem d_Mo_put_25 : decode b_Mo_put 25 = .ok (.iconst 1, 1) := by decide +kernel
theorem d_Mo_put_26 : decode b_Mo_put 26 = .ok (.goto 4, 3) := by decide +kernel
theorem d_Mo_put_29 : decode b_Mo_put 29 = .ok (.iconst 0, 1) := by decide +kernel
theorem d_Mo_put_30 : decode b_Mo_put 30 = .ok (.putfield 101, 3) := by decide +kernel
theorem d_Mo_put_33 : decode b_Mo_put 33 = .ok (.aload_n 0, 1) := by decide +kernel
theorem d_Mo_put_34 : decode b_Mo_put 34 = .ok (.getfield 101, 3) := by decide +kernel
theorem d_Mo_put_37 : decode b_Mo_put 37 = .ok (.ifCond .le 5, 3) := by decide +kernel
theorem d_Mo_put_40 : decode b_Mo_put 40 = .ok (.iconst 0, 1) := by decide +kernel
theorem d_Mo_put_41 : decode b_Mo_put 41 = .ok (.ireturn, 1) := by decide +kernel
theorem d_Mo_put_42 : decode b_Mo_put 42 = .ok (.lconst 1, 1) := by decide +kernel
theorem d_Mo_put_43 : decode b_Mo_put 43 = .ok (.bipush 8, 2) := by decide +kernel
theorem d_Mo_put_45 : decode b_Mo_put 45 = .ok (.iload_n 3, 1) := by decide +kernel
theorem d_Mo_put_46 : decode b_Mo_put 46 = .ok (.imul, 1) := by decide +kernel
theorem d_Mo_put_47 : decode b_Mo_put 47 = .ok (.iload_n 2, 1) := by decide +kernel
theorem d_Mo_put_48 : decode b_Mo_put 48 = .ok (.iadd, 1) := by decide +kernel
theorem d_Mo_put_49 : decode b_Mo_put 49 = .ok (.lshl, 1) := by decide +kernel
theorem d_Mo_put_50 : decode b_Mo_put 50 = .ok (.lstore 5, 2) := by decide +kernel
theorem d_Mo_put_52 : decode b_Mo_put 52 = .ok (.aload_n 0, 1) := by decide +kernel
theorem d_Mo_put_53 : decode b_Mo_put 53 = .ok (.getfield 16, 3) := by decide +kernel
theorem d_Mo_put_56 : decode b_Mo_put 56 = .ok (.iload_n 1, 1) := by decide +kernel
theorem d_Mo_put_57 : decode b_Mo_put 57 = .ok (.laload, 1) := by decide +kernel
theorem d_Mo_put_58 : decode b_Mo_put 58 = .ok (.lload 5, 2) := by decide +kernel
theorem d_Mo_put_60 : decode b_Mo_put 60 = .ok (.land, 1) := by decide +kernel
theorem d_Mo_put_61 : decode b_Mo_put 61 = .ok (.lconst 0, 1) := by decide +kernel
theorem d_Mo_put_62 : decode b_Mo_put 62 = .ok (.lcmp, 1) := by decide +kernel
theorem d_Mo_put_63 : decode b_Mo_put 63 = .ok (.ifCond .eq 7, 3) := by decide +kernel
theorem d_Mo_put_66 : decode b_Mo_put 66 = .ok (.iconst 1, 1) := by decide +kernel
theorem d_Mo_put_67 : decode b_Mo_put 67 = .ok (.goto 4, 3) := by decide +kernel
theorem d_Mo_put_70 : decode b_Mo_put 70 = .ok (.iconst 0, 1) := by decide +kernel
theorem d_Mo_put_71 : decode b_Mo_put 71 = .ok (.istore 7, 2) := by decide +kernel
theorem d_Mo_put_73 : decode b_Mo_put 73 = .ok (.aload_n 0, 1) := by decide +kernel
theorem d_Mo_put_74 : decode b_Mo_put 74 = .ok (.getfield 16, 3) := by decide +kernel
theorem d_Mo_put_77 : decode b_Mo_put 77 = .ok (.iload_n 1, 1) := by decide +kernel
theorem d_Mo_put_78 : decode b_Mo_put 78 = .ok (.iload 4, 2) := by decide +kernel
theorem d_Mo_put_80 : decode b_Mo_put 80 = .ok (.ifCond .eq 15, 3) := by decide +kernel
theorem d_Mo_put_83 : decode b_Mo_put 83 = .ok (.aload_n 0, 1) := by decide +kernel
theorem d_Mo_put_84 : decode b_Mo_put 84 = .ok (.getfield 16, 3) := by decide +kernel
theorem d_Mo_put_87 : decode b_Mo_put 87 = .ok (.iload_n 1, 1) := by decide +kernel
theorem d_Mo_put_88 : decode b_Mo_put 88 = .ok (.laload, 1) := by decide +kernel
theorem d_Mo_put_89 : decode b_Mo_put 89 = .ok (.lload 5, 2) := by decide +kernel
theorem d_Mo_put_91 : decode b_Mo_put 91 = .ok (.lor, 1) := by decide +kernel
theorem d_Mo_put_92 : decode b_Mo_put 92 = .ok (.goto 16, 3) := by decide +kernel
theorem d_Mo_put_95 : decode b_Mo_put 95 = .ok (.aload_n 0, 1) := by decide +kernel
theorem d_Mo_put_96 : decode b_Mo_put 96 = .ok (.getfield 16, 3) := by decide +kernel
theorem d_Mo_put_99 : decode b_Mo_put 99 = .ok (.iload_n 1, 1) := by decide +kernel
theorem d_Mo_put_100 : decode b_Mo_put 100 = .ok (.laload, 1) := by decide +kernel
theorem d_Mo_put_101 : decode b_Mo_put 101 = .ok (.lload 5, 2) := by decide +kernel
theorem d_Mo_put_103 : decode b_Mo_put 103 = .ok (.ldc2_w 114, 3) := by decide +kernel
theorem d_Mo_put_106 : decode b_Mo_put 106 = .ok (.lxor, 1) := by decide +kernel
theorem d_Mo_put_107 : decode b_Mo_put 107 = .ok (.land, 1) := by decide +kernel
theorem d_Mo_put_108 : decode b_Mo_put 108 = .ok (.lastore, 1) := by decide +kernel
theorem d_Mo_put_109 : decode b_Mo_put 109 = .ok (.iload 7, 2) := by decide +kernel
theorem d_Mo_put_111 : decode b_Mo_put 111 = .ok (.iload 4, 2) := by decide +kernel
theorem d_Mo_put_113 : decode b_Mo_put 113 = .ok (.if_icmp .eq 7, 3) := by decide +kernel
theorem d_Mo_put_116 : decode b_Mo_put 116 = .ok (.iconst 1, 1) := by decide +kernel
theorem d_Mo_put_117 : decode b_Mo_put 117 = .ok (.goto 4, 3) := by decide +kernel
theorem d_Mo_put_120 : decode b_Mo_put 120 = .ok (.iconst 0, 1) := by decide +kernel
theorem d_Mo_put_121 : decode b_Mo_put 121 = .ok (.ireturn, 1) := by decide +kernel
theorem d_Mo_instance_0 : decode b_Mo_instance 0 = .ok (.aload_n 0, 1) := by decide +kernel
theorem d_Mo_instance_1 : decode b_Mo_instance 1 = .ok (.iload_n 1, 1) := by decide +kernel
theorem d_Mo_instance_2 : decode b_Mo_instance 2 = .ok (.iconst 0, 1) := by decide +kernel
theorem d_Mo_instance_3 : decode b_Mo_instance 3 = .ok (.aload_n 0, 1) := by decide +kernel
theorem d_Mo_instance_4 : decode b_Mo_instance 4 = .ok (.getfield 108, 3) := by decide +kernel
theorem d_Mo_instance_7 : decode b_Mo_instance 7 = .ok (.iconst 1, 1) := by decide +kernel
theorem d_Mo_instance_8 : decode b_Mo_instance 8 = .ok (.isub, 1) := by decide +kernel
theorem d_Mo_instance_9 : decode b_Mo_instance 9 = .ok (.invokestatic 104, 3) := by decide +kernel
theorem d_Mo_instance_12 : decode b_Mo_instance 12 = .ok (.ifCond .ne 7, 3) := by decide +kernel
theorem d_Mo_instance_15 : decode b_Mo_instance 15 = .ok (.iconst 1, 1) := by decide +kernel
theorem d_Mo_instance_16 : decode b_Mo_instance 16 = .ok (.goto 43, 3) := by decide +kernel
theorem d_Mo_instance_19 : decode b_Mo_instance 19 = .ok (.iload_n 2, 1) := by decide +kernel
theorem d_Mo_instance_20 : decode b_Mo_instance 20 = .ok (.bipush (-8), 2) := by decide +kernel
theorem d_Mo_instance_22 : decode b_Mo_instance 22 = .ok (.bipush 31, 2) := by decide +kernel
theorem d_Mo_instance_24 : decode b_Mo_instance 24 = .ok (.invokestatic 104, 3) := by decide +kernel
theorem d_Mo_instance_27 : decode b_Mo_instance 27 = .ok (.ifCond .eq 14, 3) := by decide +kernel
theorem d_Mo_instance_30 : decode b_Mo_instance 30 = .ok (.iload_n 3, 1) := by decide +kernel
theorem d_Mo_instance_31 : decode b_Mo_instance 31 = .ok (.bipush (-8), 2) := by decide +kernel
theorem d_Mo_instance_33 : decode b_Mo_instance 33 = .ok (.bipush 31, 2) := by decide +kernel
theorem d_Mo_instance_35 : decode b_Mo_instance 35 = .ok (.invokestatic 104, 3) := by decide +kernel
theorem d_Mo_instance_38 : decode b_Mo_instance 38 = .ok (.ifCond .ne 7, 3) := by decide +kernel
theorem d_Mo_instance_41 : decode b_Mo_instance 41 = .ok (.iconst 2, 1) := by decide +kernel
theorem d_Mo_instance_42 : decode b_Mo_instance 42 = .ok (.goto 17, 3) := by decide +kernel
theorem d_Mo_instance_45 : decode b_Mo_instance 45 = .ok (.aload_n 0, 1) := by decide +kernel
theorem d_Mo_instance_46 : decode b_Mo_instance 46 = .ok (.getfield 116, 3) := by decide +kernel
theorem d_Mo_instance_49 : decode b_Mo_instance 49 = .ok (.bipush 40, 2) := by decide +kernel
theorem d_Mo_instance_51 : decode b_Mo_instance 51 = .ok (.if_icmp .ne 7, 3) := by decide +kernel
theorem d_Mo_instance_54 : decode b_Mo_instance 54 = .ok (.iconst 3, 1) := by decide +kernel
theorem d_Mo_instance_55 : decode b_Mo_instance 55 = .ok (.goto 4, 3) := by decide +kernel
theorem d_Mo_instance_58 : decode b_Mo_instance 58 = .ok (.iconst 0, 1) := by decide +kernel
theorem d_Mo_instance_59 : decode b_Mo_instance 59 = .ok (.putfield 101, 3) := by decide +kernel
theorem d_Mo_instance_62 : decode b_Mo_instance 62 = .ok (.aload_n 0, 1) := by decide +kernel
theorem d_Mo_instance_63 : decode b_Mo_instance 63 = .ok (.getfield 101, 3) := by decide +kernel
theorem d_Mo_instance_66 : decode b_Mo_instance 66 = .ok (.ifCond .le 5, 3) := by decide +kernel
theorem d_Mo_instance_69 : decode b_Mo_instance 69 = .ok (.iconst 0, 1) := by decide +kernel
theorem d_Mo_instance_70 : decode b_Mo_instance 70 = .ok (.ireturn, 1) := by decide +kernel
theorem d_Mo_instance_71 : decode b_Mo_instance 71 = .ok (.aload_n 0, 1) := by decide +kernel
theorem d_Mo_instance_72 : decode b_Mo_instance 72 = .ok (.getfield 20, 3) := by decide +kernel
theorem d_Mo_instance_75 : decode b_Mo_instance 75 = .ok (.aload_n 0, 1) := by decide +kernel
theorem d_Mo_instance_76 : decode b_Mo_instance 76 = .ok (.getfield 116, 3) := by decide +kernel
theorem d_Mo_instance_79 : decode b_Mo_instance 79 = .ok (.iload_n 1, 1) := by decide +kernel
theorem d_Mo_instance_80 : decode b_Mo_instance 80 = .ok (.iastore, 1) := by decide +kernel
theorem d_Mo_instance_81 : decode b_Mo_instance 81 = .ok (.aload_n 0, 1) := by decide +kernel
theorem d_Mo_instance_82 : decode b_Mo_instance 82 = .ok (.getfield 23, 3) := by decide +kernel
theorem d_Mo_instance_85 : decode b_Mo_instance 85 = .ok (.aload_n 0, 1) := by decide +kernel
theorem d_Mo_instance_86 : decode b_Mo_instance 86 = .ok (.getfield 116, 3) := by decide +kernel
theorem d_Mo_instance_89 : decode b_Mo_instance 89 = .ok (.iload_n 2, 1) := by decide +kernel
theorem d_Mo_instance_90 : decode b_Mo_instance 90 = .ok (.iastore, 1) := by decide +kernel
theorem d_Mo_instance_91 : decode b_Mo_instance 91 = .ok (.aload_n 0, 1) := by decide +kernel
theorem d_Mo_instance_92 : decode b_Mo_instance 92 = .ok (.getfield 26, 3) := by decide +kernel
theorem d_Mo_instance_95 : decode b_Mo_instance 95 = .ok (.aload_n 0, 1) := by decide +kernel
theorem d_Mo_instance_96 : decode b_Mo_instance 96 = .ok (.getfield 116, 3) := by decide +kernel
theorem d_Mo_instance_99 : decode b_Mo_instance 99 = .ok (.iload_n 3, 1) := by decide +kernel
theorem d_Mo_instance_100 : decode b_Mo_instance 100 = .ok (.iastore, 1) := by decide +kernel
theorem d_Mo_instance_101 : decode b_Mo_instance 101 = .ok (.aload_n 0, 1) := by decide +kernel
theorem d_Mo_instance_102 : decode b_Mo_instance 102 = .ok (.getfield 29, 3) := by decide +kernel
theorem d_Mo_instance_105 : decode b_Mo_instance 105 = .ok (.aload_n 0, 1) := by decide +kernel
theorem d_Mo_instance_106 : decode b_Mo_instance 106 = .ok (.getfield 116, 3) := by decide +kernel
theorem d_Mo_instance_109 : decode b_Mo_instance 109 = .ok (.lconst 0, 1) := by decide +kernel
theorem d_Mo_instance_110 : decode b_Mo_instance 110 = .ok (.lastore, 1) := by decide +kernel
theorem d_Mo_instance_111 : decode b_Mo_instance 111 = .ok (.aload_n 0, 1) := by decide +kernel
theorem d_Mo_instance_112 : decode b_Mo_instance 112 = .ok (.dup, 1) := by decide +kernel
theorem d_Mo_instance_113 : decode b_Mo_instance 113 = .ok (.getfield 116, 3) := by decide +kernel
theorem d_Mo_instance_116 : decode b_Mo_instance 116 = .ok (.iconst 1, 1) := by decide +kernel
theorem d_Mo_instance_117 : decode b_Mo_instance 117 = .ok (.iadd, 1) := by decide +kernel
theorem d_Mo_instance_118 : decode b_Mo_instance 118 = .ok (.putfield 116, 3) := by decide +kernel
theorem d_Mo_instance_121 : decode b_Mo_instance 121 = .ok (.aload_n 0, 1) := by decide +kernel
theorem d_Mo_instance_122 : decode b_Mo_instance 122 = .ok (.getfield 116, 3) := by decide +kernel
theorem d_Mo_instance_125 : decode b_Mo_instance 125 = .ok (.iconst 1, 1) := by decide +kernel
theorem d_Mo_instance_126 : decode b_Mo_instance 126 = .ok (.isub, 1) := by decide +kernel
theorem d_Mo_instance_127 : decode b_Mo_instance 127 = .ok (.ireturn, 1) := by decide +kernel
theorem d_Mo_isInstance_0 : decode b_Mo_isInstance 0 = .ok (.iload_n 1, 1) := by decide +kernel
theorem d_Mo_isInstance_1 : decode b_Mo_isInstance 1 = .ok (.iconst 0, 1) := by decide +kernel
theorem d_Mo_isInstance_2 : decode b_Mo_isInstance 2 = .ok (.aload_n 0, 1) := by decide +kernel
theorem d_Mo_isInstance_3 : decode b_Mo_isInstance 3 = .ok (.getfield 116, 3) := by decide +kernel
theorem d_Mo_isInstance_6 : decode b_Mo_isInstance 6 = .ok (.iconst 1, 1) := by decide +kernel
theorem d_Mo_isInstance_7 : decode b_Mo_isInstance 7 = .ok (.isub, 1) := by decide +kernel
theorem d_Mo_isInstance_8 : decode b_Mo_isInstance 8 = .ok (.invokestatic 104, 3) := by decide +kernel
theorem d_Mo_isInstance_11 : decode b_Mo_isInstance 11 = .ok (.ireturn, 1) := by decide +kernel
theorem d_Mo_refine_0 : decode b_Mo_refine 0 = .ok (.aload_n 0, 1) := by decide +kernel
theorem d_Mo_refine_1 : decode b_Mo_refine 1 = .ok (.aload_n 0, 1) := by decide +kernel
theorem d_Mo_refine_2 : decode b_Mo_refine 2 = .ok (.iload_n 1, 1) := by decide +kernel
theorem d_Mo_refine_3 : decode b_Mo_refine 3 = .ok (.invokevirtual 119, 3) := by decide +kernel
theorem d_Mo_refine_6 : decode b_Mo_refine 6 = .ok (.ifCond .eq 18, 3) := by decide +kernel
theorem d_Mo_refine_9 : decode b_Mo_refine 9 = .ok (.aload_n 0, 1) := by decide +kernel
theorem d_Mo_refine_10 : decode b_Mo_refine 10 = .ok (.aload_n 0, 1) := by decide +kernel
theorem d_Mo_refine_11 : decode b_Mo_refine 11 = .ok (.getfield 20, 3) := by decide +kernel
theorem d_Mo_refine_14 : decode b_Mo_refine 14 = .ok (.iload_n 1, 1) := by decide +kernel
theorem d_Mo_refine_15 : decode b_Mo_refine 15 = .ok (.iaload, 1) := by decide +kernel
theorem d_Mo_refine_16 : decode b_Mo_refine 16 = .ok (.iload_n 2, 1) := by decide +kernel
theorem d_Mo_refine_17 : decode b_Mo_refine 17 = .ok (.iload_n 3, 1) := by decide +kernel
theorem d_Mo_refine_18 : decode b_Mo_refine 18 = .ok (.invokevirtual 111, 3) := by decide +kernel
theorem d_Mo_refine_21 : decode b_Mo_refine 21 = .ok (.ifCond .ne 7, 3) := by decide +kernel
theorem d_Mo_refine_24 : decode b_Mo_refine 24 = .ok (.iconst 1, 1) := by decide +kernel
theorem d_Mo_refine_25 : decode b_Mo_refine 25 = .ok (.goto 4, 3) := by decide +kernel
theorem d_Mo_refine_28 : decode b_Mo_refine 28 = .ok (.iconst 0, 1) := by decide +kernel
theorem d_Mo_refine_29 : decode b_Mo_refine 29 = .ok (.putfield 101, 3) := by decide +kernel
theorem d_Mo_refine_32 : decode b_Mo_refine 32 = .ok (.aload_n 0, 1) := by decide +kernel
theorem d_Mo_refine_33 : decode b_Mo_refine 33 = .ok (.getfield 101, 3) := by decide +kernel
theorem d_Mo_refine_36 : decode b_Mo_refine 36 = .ok (.ifCond .le 5, 3) := by decide +kernel
theorem d_Mo_refine_39 : decode b_Mo_refine 39 = .ok (.iconst 0, 1) := by decide +kernel
theorem d_Mo_refine_40 : decode b_Mo_refine 40 = .ok (.ireturn, 1) := by decide +kernel
theorem d_Mo_refine_41 : decode b_Mo_refine 41 = .ok (.lconst 1, 1) := by decide +kernel
theorem d_Mo_refine_42 : decode b_Mo_refine 42 = .ok (.bipush 8, 2) := by decide +kernel
theorem d_Mo_refine_44 : decode b_Mo_refine 44 = .ok (.iload_n 3, 1) := by decide +kernel
theorem d_Mo_refine_45 : decode b_Mo_refine 45 = .ok (.imul, 1) := by decide +kernel
theorem d_Mo_refine_46 : decode b_Mo_refine 46 = .ok (.iload_n 2, 1) := by decide +kernel
theorem d_Mo_refine_47 : decode b_Mo_refine 47 = .ok (.iadd, 1) := by decide +kernel
theorem d_Mo_refine_48 : decode b_Mo_refine 48 = .ok (.lshl, 1) := by decide +kernel
theorem d_Mo_refine_49 : decode b_Mo_refine 49 = .ok (.lstore 5, 2) := by decide +kernel
theorem d_Mo_refine_51 : decode b_Mo_refine 51 = .ok (.aload_n 0, 1) := by decide +kernel
theorem d_Mo_refine_52 : decode b_Mo_refine 52 = .ok (.getfield 29, 3) := by decide +kernel
theorem d_Mo_refine_55 : decode b_Mo_refine 55 = .ok (.iload_n 1, 1) := by decide +kernel
theorem d_Mo_refine_56 : decode b_Mo_refine 56 = .ok (.laload, 1) := by decide +kernel
theorem d_Mo_refine_57 : decode b_Mo_refine 57 = .ok (.lload 5, 2) := by decide +kernel
theorem d_Mo_refine_59 : decode b_Mo_refine 59 = .ok (.land, 1) := by decide +kernel
theorem d_Mo_refine_60 : decode b_Mo_refine 60 = .ok (.lconst 0, 1) := by decide +kernel
theorem d_Mo_refine_61 : decode b_Mo_refine 61 = .ok (.lcmp, 1) := by decide +kernel
theorem d_Mo_refine_62 : decode b_Mo_refine 62 = .ok (.ifCond .eq 7, 3) := by decide +kernel
theorem d_Mo_refine_65 : decode b_Mo_refine 65 = .ok (.iconst 1, 1) := by decide +kernel
theorem d_Mo_refine_66 : decode b_Mo_refine 66 = .ok (.goto 4, 3) := by decide +kernel
theorem d_Mo_refine_69 : decode b_Mo_refine 69 = .ok (.iconst 0, 1) := by decide +kernel
theorem d_Mo_refine_70 : decode b_Mo_refine 70 = .ok (.istore 7, 2) := by decide +kernel
theorem d_Mo_refine_72 : decode b_Mo_refine 72 = .ok (.aload_n 0, 1) := by decide +kernel
theorem d_Mo_refine_73 : decode b_Mo_refine 73 = .ok (.getfield 29, 3) := by decide +kernel
theorem d_Mo_refine_76 : decode b_Mo_refine 76 = .ok (.iload_n 1, 1) := by decide +kernel
theorem d_Mo_refine_77 : decode b_Mo_refine 77 = .ok (.iload 4, 2) := by decide +kernel
theorem d_Mo_refine_79 : decode b_Mo_refine 79 = .ok (.ifCond .eq 15, 3) := by decide +kernel
theorem d_Mo_refine_82 : decode b_Mo_refine 82 = .ok (.aload_n 0, 1) := by decide +kernel
theorem d_Mo_refine_83 : decode b_Mo_refine 83 = .ok (.getfield 29, 3) := by decide +kernel
theorem d_Mo_refine_86 : decode b_Mo_refine 86 = .ok (.iload_n 1, 1) := by decide +kernel
theorem d_Mo_refine_87 : decode b_Mo_refine 87 = .ok (.laload, 1) := by decide +kernel
theorem d_Mo_refine_88 : decode b_Mo_refine 88 = .ok (.lload 5, 2) := by decide +kernel
theorem d_Mo_refine_90 : decode b_Mo_refine 90 = .ok (.lor, 1) := by decide +kernel
theorem d_Mo_refine_91 : decode b_Mo_refine 91 = .ok (.goto 16, 3) := by decide +kernel
theorem d_Mo_refine_94 : decode b_Mo_refine 94 = .ok (.aload_n 0, 1) := by decide +kernel
theorem d_Mo_refine_95 : decode b_Mo_refine 95 = .ok (.getfield 29, 3) := by decide +kernel
theorem d_Mo_refine_98 : decode b_Mo_refine 98 = .ok (.iload_n 1, 1) := by decide +kernel
theorem d_Mo_refine_99 : decode b_Mo_refine 99 = .ok (.laload, 1) := by decide +kernel
theorem d_Mo_refine_100 : decode b_Mo_refine 100 = .ok (.lload 5, 2) := by decide +kernel
theorem d_Mo_refine_102 : decode b_Mo_refine 102 = .ok (.ldc2_w 114, 3) := by decide +kernel
theorem d_Mo_refine_105 : decode b_Mo_refine 105 = .ok (.lxor, 1) := by decide +kernel
theorem d_Mo_refine_106 : decode b_Mo_refine 106 = .ok (.land, 1) := by decide +kernel
theorem d_Mo_refine_107 : decode b_Mo_refine 107 = .ok (.lastore, 1) := by decide +kernel
theorem d_Mo_refine_108 : decode b_Mo_refine 108 = .ok (.iload 7, 2) := by decide +kernel
theorem d_Mo_refine_110 : decode b_Mo_refine 110 = .ok (.iload 4, 2) := by decide +kernel
theorem d_Mo_refine_112 : decode b_Mo_refine 112 = .ok (.if_icmp .eq 7, 3) := by decide +kernel
theorem d_Mo_refine_115 : decode b_Mo_refine 115 = .ok (.iconst 1, 1) := by decide +kernel
theorem d_Mo_refine_116 : decode b_Mo_refine 116 = .ok (.goto 4, 3) := by decide +kernel
theorem d_Mo_refine_119 : decode b_Mo_refine 119 = .ok (.iconst 0, 1) := by decide +kernel
theorem d_Mo_refine_120 : decode b_Mo_refine 120 = .ok (.ireturn, 1) := by decide +kernel
theorem d_Mo_way_0 : decode b_Mo_way 0 = .ok (.iload_n 1, 1) := by decide +kernel
theorem d_Mo_way_1 : decode b_Mo_way 1 = .ok (.iconst 1, 1) := by decide +kernel
theorem d_Mo_way_2 : decode b_Mo_way 2 = .ok (.if_icmp .ne 7, 3) := by decide +kernel
theorem d_Mo_way_5 : decode b_Mo_way 5 = .ok (.iconst 1, 1) := by decide +kernel
theorem d_Mo_way_6 : decode b_Mo_way 6 = .ok (.goto 13, 3) := by decide +kernel
theorem d_Mo_way_9 : decode b_Mo_way 9 = .ok (.iload_n 1, 1) := by decide +kernel
theorem d_Mo_way_10 : decode b_Mo_way 10 = .ok (.iconst 3, 1) := by decide +kernel
theorem d_Mo_way_11 : decode b_Mo_way 11 = .ok (.if_icmp .ne 7, 3) := by decide +kernel
theorem d_Mo_way_14 : decode b_Mo_way 14 = .ok (.iconst 4, 1) := by decide +kernel
theorem d_Mo_way_15 : decode b_Mo_way 15 = .ok (.goto 4, 3) := by decide +kernel
theorem d_Mo_way_18 : decode b_Mo_way 18 = .ok (.iconst 3, 1) := by decide +kernel
theorem d_Mo_way_19 : decode b_Mo_way 19 = .ok (.istore_n 3, 1) := by decide +kernel
theorem d_Mo_way_20 : decode b_Mo_way 20 = .ok (.aload_n 0, 1) := by decide +kernel
theorem d_Mo_way_21 : decode b_Mo_way 21 = .ok (.iload_n 1, 1) := by decide +kernel
theorem d_Mo_way_22 : decode b_Mo_way 22 = .ok (.iconst 0, 1) := by decide +kernel
theorem d_Mo_way_23 : decode b_Mo_way 23 = .ok (.iconst 3, 1) := by decide +kernel
theorem d_Mo_way_24 : decode b_Mo_way 24 = .ok (.invokestatic 104, 3) := by decide +kernel
theorem d_Mo_way_27 : decode b_Mo_way 27 = .ok (.ifCond .eq 16, 3) := by decide +kernel
theorem d_Mo_way_30 : decode b_Mo_way 30 = .ok (.iload_n 2, 1) := by decide +kernel
theorem d_Mo_way_31 : decode b_Mo_way 31 = .ok (.iconst 0, 1) := by decide +kernel
theorem d_Mo_way_32 : decode b_Mo_way 32 = .ok (.iload_n 3, 1) := by decide +kernel
theorem d_Mo_way_33 : decode b_Mo_way 33 = .ok (.invokestatic 104, 3) := by decide +kernel
theorem d_Mo_way_36 : decode b_Mo_way 36 = .ok (.ifCond .eq 7, 3) := by decide +kernel
theorem d_Mo_way_39 : decode b_Mo_way 39 = .ok (.iconst 0, 1) := by decide +kernel
theorem d_Mo_way_40 : decode b_Mo_way 40 = .ok (.goto 4, 3) := by decide +kernel
theorem d_Mo_way_43 : decode b_Mo_way 43 = .ok (.iconst 1, 1) := by decide +kernel
theorem d_Mo_way_44 : decode b_Mo_way 44 = .ok (.putfield 101, 3) := by decide +kernel
theorem d_Mo_way_47 : decode b_Mo_way 47 = .ok (.aload_n 0, 1) := by decide +kernel
theorem d_Mo_way_48 : decode b_Mo_way 48 = .ok (.getfield 101, 3) := by decide +kernel
theorem d_Mo_way_51 : decode b_Mo_way 51 = .ok (.ifCond .le 5, 3) := by decide +kernel
theorem d_Mo_way_54 : decode b_Mo_way 54 = .ok (.iconst 0, 1) := by decide +kernel
theorem d_Mo_way_55 : decode b_Mo_way 55 = .ok (.ireturn, 1) := by decide +kernel
theorem d_Mo_way_56 : decode b_Mo_way 56 = .ok (.aload_n 0, 1) := by decide +kernel
theorem d_Mo_way_57 : decode b_Mo_way 57 = .ok (.getfield 32, 3) := by decide +kernel
theorem d_Mo_way_60 : decode b_Mo_way 60 = .ok (.iload_n 1, 1) := by decide +kernel
theorem d_Mo_way_61 : decode b_Mo_way 61 = .ok (.iaload, 1) := by decide +kernel
theorem d_Mo_way_62 : decode b_Mo_way 62 = .ok (.istore 4, 2) := by decide +kernel
theorem d_Mo_way_64 : decode b_Mo_way 64 = .ok (.aload_n 0, 1) := by decide +kernel
theorem d_Mo_way_65 : decode b_Mo_way 65 = .ok (.getfield 32, 3) := by decide +kernel
theorem d_Mo_way_68 : decode b_Mo_way 68 = .ok (.iload_n 1, 1) := by decide +kernel
theorem d_Mo_way_69 : decode b_Mo_way 69 = .ok (.iload_n 2, 1) := by decide +kernel
theorem d_Mo_way_70 : decode b_Mo_way 70 = .ok (.iastore, 1) := by decide +kernel
theorem d_Mo_way_71 : decode b_Mo_way 71 = .ok (.iload 4, 2) := by decide +kernel
theorem d_Mo_way_73 : decode b_Mo_way 73 = .ok (.ireturn, 1) := by decide +kernel
theorem d_Mo_columnOf_0 : decode b_Mo_columnOf 0 = .ok (.aload_n 0, 1) := by decide +kernel
theorem d_Mo_columnOf_1 : decode b_Mo_columnOf 1 = .ok (.getfield 23, 3) := by decide +kernel
theorem d_Mo_columnOf_4 : decode b_Mo_columnOf 4 = .ok (.iload_n 1, 1) := by decide +kernel
theorem d_Mo_columnOf_5 : decode b_Mo_columnOf 5 = .ok (.iaload, 1) := by decide +kernel
theorem d_Mo_columnOf_6 : decode b_Mo_columnOf 6 = .ok (.aload_n 0, 1) := by decide +kernel
theorem d_Mo_columnOf_7 : decode b_Mo_columnOf 7 = .ok (.getfield 32, 3) := by decide +kernel
theorem d_Mo_columnOf_10 : decode b_Mo_columnOf 10 = .ok (.iconst 0, 1) := by decide +kernel
theorem d_Mo_columnOf_11 : decode b_Mo_columnOf 11 = .ok (.iaload, 1) := by decide +kernel
theorem d_Mo_columnOf_12 : decode b_Mo_columnOf 12 = .ok (.iconst 2, 1) := by decide +kernel
theorem d_Mo_columnOf_13 : decode b_Mo_columnOf 13 = .ok (.if_icmp .lt 19, 3) := by decide +kernel
theorem d_Mo_columnOf_16 : decode b_Mo_columnOf 16 = .ok (.aload_n 0, 1) := by decide +kernel
theorem d_Mo_columnOf_17 : decode b_Mo_columnOf 17 = .ok (.getfield 7, 3) := by decide +kernel
theorem d_Mo_columnOf_20 : decode b_Mo_columnOf 20 = .ok (.aload_n 0, 1) := by decide +kernel
theorem d_Mo_columnOf_21 : decode b_Mo_columnOf 21 = .ok (.getfield 20, 3) := by decide +kernel
theorem d_Mo_columnOf_24 : decode b_Mo_columnOf 24 = .ok (.iload_n 1, 1) := by decide +kernel
theorem d_Mo_columnOf_25 : decode b_Mo_columnOf 25 = .ok (.iaload, 1) := by decide +kernel
theorem d_Mo_columnOf_26 : decode b_Mo_columnOf 26 = .ok (.iaload, 1) := by decide +kernel
theorem d_Mo_columnOf_27 : decode b_Mo_columnOf 27 = .ok (.iconst 1, 1) := by decide +kernel
theorem d_Mo_columnOf_28 : decode b_Mo_columnOf 28 = .ok (.isub, 1) := by decide +kernel
theorem d_Mo_columnOf_29 : decode b_Mo_columnOf 29 = .ok (.goto 4, 3) := by decide +kernel
theorem d_Mo_columnOf_32 : decode b_Mo_columnOf 32 = .ok (.iconst 0, 1) := by decide +kernel
theorem d_Mo_columnOf_33 : decode b_Mo_columnOf 33 = .ok (.iadd, 1) := by decide +kernel
theorem d_Mo_columnOf_34 : decode b_Mo_columnOf 34 = .ok (.ireturn, 1) := by decide +kernel
theorem d_Mo_rowOf_0 : decode b_Mo_rowOf 0 = .ok (.aload_n 0, 1) := by decide +kernel
theorem d_Mo_rowOf_1 : decode b_Mo_rowOf 1 = .ok (.getfield 26, 3) := by decide +kernel
theorem d_Mo_rowOf_4 : decode b_Mo_rowOf 4 = .ok (.iload_n 1, 1) := by decide +kernel
theorem d_Mo_rowOf_5 : decode b_Mo_rowOf 5 = .ok (.iaload, 1) := by decide +kernel
theorem d_Mo_rowOf_6 : decode b_Mo_rowOf 6 = .ok (.aload_n 0, 1) := by decide +kernel
theorem d_Mo_rowOf_7 : decode b_Mo_rowOf 7 = .ok (.getfield 32, 3) := by decide +kernel
theorem d_Mo_rowOf_10 : decode b_Mo_rowOf 10 = .ok (.iconst 0, 1) := by decide +kernel
theorem d_Mo_rowOf_11 : decode b_Mo_rowOf 11 = .ok (.iaload, 1) := by decide +kernel
theorem d_Mo_rowOf_12 : decode b_Mo_rowOf 12 = .ok (.iconst 2, 1) := by decide +kernel
theorem d_Mo_rowOf_13 : decode b_Mo_rowOf 13 = .ok (.irem, 1) := by decide +kernel
theorem d_Mo_rowOf_14 : decode b_Mo_rowOf 14 = .ok (.iconst 1, 1) := by decide +kernel
theorem d_Mo_rowOf_15 : decode b_Mo_rowOf 15 = .ok (.if_icmp .ne 19, 3) := by decide +kernel
theorem d_Mo_rowOf_18 : decode b_Mo_rowOf 18 = .ok (.aload_n 0, 1) := by decide +kernel
theorem d_Mo_rowOf_19 : decode b_Mo_rowOf 19 = .ok (.getfield 13, 3) := by decide +kernel
theorem d_Mo_rowOf_22 : decode b_Mo_rowOf 22 = .ok (.aload_n 0, 1) := by decide +kernel
theorem d_Mo_rowOf_23 : decode b_Mo_rowOf 23 = .ok (.getfield 20, 3) := by decide +kernel
theorem d_Mo_rowOf_26 : decode b_Mo_rowOf 26 = .ok (.iload_n 1, 1) := by decide +kernel
theorem d_Mo_rowOf_27 : decode b_Mo_rowOf 27 = .ok (.iaload, 1) := by decide +kernel
theorem d_Mo_rowOf_28 : decode b_Mo_rowOf 28 = .ok (.iaload, 1) := by decide +kernel
theorem d_Mo_rowOf_29 : decode b_Mo_rowOf 29 = .ok (.iconst 1, 1) := by decide +kernel
theorem d_Mo_rowOf_30 : decode b_Mo_rowOf 30 = .ok (.isub, 1) := by decide +kernel
theorem d_Mo_rowOf_31 : decode b_Mo_rowOf 31 = .ok (.goto 4, 3) := by decide +kernel
theorem d_Mo_rowOf_34 : decode b_Mo_rowOf 34 = .ok (.iconst 0, 1) := by decide +kernel
theorem d_Mo_rowOf_35 : decode b_Mo_rowOf 35 = .ok (.iadd, 1) := by decide +kernel
theorem d_Mo_rowOf_36 : decode b_Mo_rowOf 36 = .ok (.ireturn, 1) := by decide +kernel
theorem d_Mo_sOf_0 : decode b_Mo_sOf 0 = .ok (.aload_n 0, 1) := by decide +kernel
theorem d_Mo_sOf_1 : decode b_Mo_sOf 1 = .ok (.getfield 32, 3) := by decide +kernel
theorem d_Mo_sOf_4 : decode b_Mo_sOf 4 = .ok (.iconst 1, 1) := by decide +kernel
theorem d_Mo_sOf_5 : decode b_Mo_sOf 5 = .ok (.iaload, 1) := by decide +kernel
theorem d_Mo_sOf_6 : decode b_Mo_sOf 6 = .ok (.iconst 1, 1) := by decide +kernel
theorem d_Mo_sOf_7 : decode b_Mo_sOf 7 = .ok (.if_icmp .ne 11, 3) := by decide +kernel
theorem d_Mo_sOf_10 : decode b_Mo_sOf 10 = .ok (.aload_n 0, 1) := by decide +kernel
theorem d_Mo_sOf_11 : decode b_Mo_sOf 11 = .ok (.iload_n 1, 1) := by decide +kernel
theorem d_Mo_sOf_12 : decode b_Mo_sOf 12 = .ok (.invokevirtual 123, 3) := by decide +kernel
theorem d_Mo_sOf_15 : decode b_Mo_sOf 15 = .ok (.goto 8, 3) := by decide +kernel
theorem d_Mo_sOf_18 : decode b_Mo_sOf 18 = .ok (.aload_n 0, 1) := by decide +kernel
theorem d_Mo_sOf_19 : decode b_Mo_sOf 19 = .ok (.iload_n 1, 1) := by decide +kernel
theorem d_Mo_sOf_20 : decode b_Mo_sOf 20 = .ok (.invokevirtual 127, 3) := by decide +kernel
theorem d_Mo_sOf_23 : decode b_Mo_sOf 23 = .ok (.ireturn, 1) := by decide +kernel
theorem d_Mo_tOf_0 : decode b_Mo_tOf 0 = .ok (.aload_n 0, 1) := by decide +kernel
theorem d_Mo_tOf_1 : decode b_Mo_tOf 1 = .ok (.getfield 32, 3) := by decide +kernel
theorem d_Mo_tOf_4 : decode b_Mo_tOf 4 = .ok (.iconst 1, 1) := by decide +kernel
theorem d_Mo_tOf_5 : decode b_Mo_tOf 5 = .ok (.iaload, 1) := by decide +kernel
theorem d_Mo_tOf_6 : decode b_Mo_tOf 6 = .ok (.iconst 1, 1) := by decide +kernel
theorem d_Mo_tOf_7 : decode b_Mo_tOf 7 = .ok (.if_icmp .ne 11, 3) := by decide +kernel
theorem d_Mo_tOf_10 : decode b_Mo_tOf 10 = .ok (.aload_n 0, 1) := by decide +kernel
theorem d_Mo_tOf_11 : decode b_Mo_tOf 11 = .ok (.iload_n 1, 1) := by decide +kernel
theorem d_Mo_tOf_12 : decode b_Mo_tOf 12 = .ok (.invokevirtual 127, 3) := by decide +kernel
theorem d_Mo_tOf_15 : decode b_Mo_tOf 15 = .ok (.goto 8, 3) := by decide +kernel
theorem d_Mo_tOf_18 : decode b_Mo_tOf 18 = .ok (.aload_n 0, 1) := by decide +kernel
theorem d_Mo_tOf_19 : decode b_Mo_tOf 19 = .ok (.iload_n 1, 1) := by decide +kernel
theorem d_Mo_tOf_20 : decode b_Mo_tOf 20 = .ok (.invokevirtual 123, 3) := by decide +kernel
theorem d_Mo_tOf_23 : decode b_Mo_tOf 23 = .ok (.ireturn, 1) := by decide +kernel
theorem d_Mo_stripOf_0 : decode b_Mo_stripOf 0 = .ok (.aload_n 0, 1) := by decide +kernel
theorem d_Mo_stripOf_1 : decode b_Mo_stripOf 1 = .ok (.iload_n 1, 1) := by decide +kernel
theorem d_Mo_stripOf_2 : decode b_Mo_stripOf 2 = .ok (.invokevirtual 130, 3) := by decide +kernel
theorem d_Mo_stripOf_5 : decode b_Mo_stripOf 5 = .ok (.aload_n 0, 1) := by decide +kernel
theorem d_Mo_stripOf_6 : decode b_Mo_stripOf 6 = .ok (.getfield 32, 3) := by decide +kernel
theorem d_Mo_stripOf_9 : decode b_Mo_stripOf 9 = .ok (.iconst 2, 1) := by decide +kernel
theorem d_Mo_stripOf_10 : decode b_Mo_stripOf 10 = .ok (.iaload, 1) := by decide +kernel
theorem d_Mo_stripOf_11 : decode b_Mo_stripOf 11 = .ok (.ishr, 1) := by decide +kernel
theorem d_Mo_stripOf_12 : decode b_Mo_stripOf 12 = .ok (.ireturn, 1) := by decide +kernel
theorem d_Mo_sort_0 : decode b_Mo_sort 0 = .ok (.iconst 0, 1) := by decide +kernel
theorem d_Mo_sort_1 : decode b_Mo_sort 1 = .ok (.istore_n 1, 1) := by decide +kernel
theorem d_Mo_sort_2 : decode b_Mo_sort 2 = .ok (.iload_n 1, 1) := by decide +kernel
theorem d_Mo_sort_3 : decode b_Mo_sort 3 = .ok (.aload_n 0, 1) := by decide +kernel
theorem d_Mo_sort_4 : decode b_Mo_sort 4 = .ok (.getfield 116, 3) := by decide +kernel
theorem d_Mo_sort_7 : decode b_Mo_sort 7 = .ok (.if_icmp .ge 62, 3) := by decide +kernel
theorem d_Mo_sort_10 : decode b_Mo_sort 10 = .ok (.iload_n 1, 1) := by decide +kernel
theorem d_Mo_sort_11 : decode b_Mo_sort 11 = .ok (.istore_n 2, 1) := by decide +kernel
theorem d_Mo_sort_12 : decode b_Mo_sort 12 = .ok (.iload_n 2, 1) := by decide +kernel
theorem d_Mo_sort_13 : decode b_Mo_sort 13 = .ok (.ifCond .le 43, 3) := by decide +kernel
theorem d_Mo_sort_16 : decode b_Mo_sort 16 = .ok (.aload_n 0, 1) := by decide +kernel
theorem d_Mo_sort_17 : decode b_Mo_sort 17 = .ok (.aload_n 0, 1) := by decide +kernel
theorem d_Mo_sort_18 : decode b_Mo_sort 18 = .ok (.getfield 35, 3) := by decide +kernel
theorem d_Mo_sort_21 : decode b_Mo_sort 21 = .ok (.iload_n 2, 1) := by decide +kernel
theorem d_Mo_sort_22 : decode b_Mo_sort 22 = .ok (.iconst 1, 1) := by decide +kernel
theorem d_Mo_sort_23 : decode b_Mo_sort 23 = .ok (.isub, 1) := by decide +kernel
theorem d_Mo_sort_24 : decode b_Mo_sort 24 = .ok (.iaload, 1) := by decide +kernel
theorem d_Mo_sort_25 : decode b_Mo_sort 25 = .ok (.invokevirtual 133, 3) := by decide +kernel
theorem d_Mo_sort_28 : decode b_Mo_sort 28 = .ok (.aload_n 0, 1) := by decide +kernel
theorem d_Mo_sort_29 : decode b_Mo_sort 29 = .ok (.iload_n 1, 1) := by decide +kernel
theorem d_Mo_sort_30 : decode b_Mo_sort 30 = .ok (.invokevirtual 133, 3) := by decide +kernel
theorem d_Mo_sort_33 : decode b_Mo_sort 33 = .ok (.if_icmp .le 23, 3) := by decide +kernel
theorem d_Mo_sort_36 : decode b_Mo_sort 36 = .ok (.aload_n 0, 1) := by decide +kernel
theorem d_Mo_sort_37 : decode b_Mo_sort 37 = .ok (.getfield 35, 3) := by decide +kernel
theorem d_Mo_sort_40 : decode b_Mo_sort 40 = .ok (.iload_n 2, 1) := by decide +kernel
theorem d_Mo_sort_41 : decode b_Mo_sort 41 = .ok (.aload_n 0, 1) := by decide +kernel
theorem d_Mo_sort_42 : decode b_Mo_sort 42 = .ok (.getfield 35, 3) := by decide +kernel
theorem d_Mo_sort_45 : decode b_Mo_sort 45 = .ok (.iload_n 2, 1) := by decide +kernel
theorem d_Mo_sort_46 : decode b_Mo_sort 46 = .ok (.iconst 1, 1) := by decide +kernel
theorem d_Mo_sort_47 : decode b_Mo_sort 47 = .ok (.isub, 1) := by decide +kernel
theorem d_Mo_sort_48 : decode b_Mo_sort 48 = .ok (.iaload, 1) := by decide +kernel
theorem d_Mo_sort_49 : decode b_Mo_sort 49 = .ok (.iastore, 1) := by decide +kernel
theorem d_Mo_sort_50 : decode b_Mo_sort 50 = .ok (.iinc 2 (-1), 3) := by decide +kernel
theorem d_Mo_sort_53 : decode b_Mo_sort 53 = .ok (.goto (-41), 3) := by decide +kernel
theorem d_Mo_sort_56 : decode b_Mo_sort 56 = .ok (.aload_n 0, 1) := by decide +kernel
theorem d_Mo_sort_57 : decode b_Mo_sort 57 = .ok (.getfield 35, 3) := by decide +kernel
theorem d_Mo_sort_60 : decode b_Mo_sort 60 = .ok (.iload_n 2, 1) := by decide +kernel
theorem d_Mo_sort_61 : decode b_Mo_sort 61 = .ok (.iload_n 1, 1) := by decide +kernel
theorem d_Mo_sort_62 : decode b_Mo_sort 62 = .ok (.iastore, 1) := by decide +kernel
theorem d_Mo_sort_63 : decode b_Mo_sort 63 = .ok (.iinc 1 1, 3) := by decide +kernel
theorem d_Mo_sort_66 : decode b_Mo_sort 66 = .ok (.goto (-64), 3) := by decide +kernel
theorem d_Mo_sort_69 : decode b_Mo_sort 69 = .ok (.return_, 1) := by decide +kernel
theorem d_Mo_lay_0 : decode b_Mo_lay 0 = .ok (.aload_n 0, 1) := by decide +kernel
theorem d_Mo_lay_1 : decode b_Mo_lay 1 = .ok (.getfield 20, 3) := by decide +kernel
theorem d_Mo_lay_4 : decode b_Mo_lay 4 = .ok (.iload_n 1, 1) := by decide +kernel
theorem d_Mo_lay_5 : decode b_Mo_lay 5 = .ok (.iaload, 1) := by decide +kernel
theorem d_Mo_lay_6 : decode b_Mo_lay 6 = .ok (.istore_n 2, 1) := by decide +kernel
theorem d_Mo_lay_7 : decode b_Mo_lay 7 = .ok (.iconst 0, 1) := by decide +kernel
theorem d_Mo_lay_8 : decode b_Mo_lay 8 = .ok (.istore_n 3, 1) := by decide +kernel
theorem d_Mo_lay_9 : decode b_Mo_lay 9 = .ok (.iload_n 3, 1) := by decide +kernel
theorem d_Mo_lay_10 : decode b_Mo_lay 10 = .ok (.aload_n 0, 1) := by decide +kernel
theorem d_Mo_lay_11 : decode b_Mo_lay 11 = .ok (.getfield 13, 3) := by decide +kernel
theorem d_Mo_lay_14 : decode b_Mo_lay 14 = .ok (.iload_n 2, 1) := by decide +kernel
theorem d_Mo_lay_15 : decode b_Mo_lay 15 = .ok (.iaload, 1) := by decide +kernel
theorem d_Mo_lay_16 : decode b_Mo_lay 16 = .ok (.if_icmp .ge 242, 3) := by decide +kernel
theorem d_Mo_lay_19 : decode b_Mo_lay 19 = .ok (.iconst 0, 1) := by decide +kernel
theorem d_Mo_lay_20 : decode b_Mo_lay 20 = .ok (.istore 4, 2) := by decide +kernel
theorem d_Mo_lay_22 : decode b_Mo_lay 22 = .ok (.iload 4, 2) := by decide +kernel
theorem d_Mo_lay_24 : decode b_Mo_lay 24 = .ok (.aload_n 0, 1) := by decide +kernel
theorem d_Mo_lay_25 : decode b_Mo_lay 25 = .ok (.getfield 7, 3) := by decide +kernel
theorem d_Mo_lay_28 : decode b_Mo_lay 28 = .ok (.iload_n 2, 1) := by decide +kernel
theorem d_Mo_lay_29 : decode b_Mo_lay 29 = .ok (.iaload, 1) := by decide +kernel
theorem d_Mo_lay_30 : decode b_Mo_lay 30 = .ok (.if_icmp .ge 222, 3) := by decide +kernel
theorem d_Mo_lay_33 : decode b_Mo_lay 33 = .ok (.aload_n 0, 1) := by decide +kernel
theorem d_Mo_lay_34 : decode b_Mo_lay 34 = .ok (.getfield 23, 3) := by decide +kernel
theorem d_Mo_lay_37 : decode b_Mo_lay 37 = .ok (.iload_n 1, 1) := by decide +kernel
theorem d_Mo_lay_38 : decode b_Mo_lay 38 = .ok (.iaload, 1) := by decide +kernel
theorem d_Mo_lay_39 : decode b_Mo_lay 39 = .ok (.iload 4, 2) := by decide +kernel
theorem d_Mo_lay_41 : decode b_Mo_lay 41 = .ok (.iadd, 1) := by decide +kernel
theorem d_Mo_lay_42 : decode b_Mo_lay 42 = .ok (.istore 5, 2) := by decide +kernel
theorem d_Mo_lay_44 : decode b_Mo_lay 44 = .ok (.aload_n 0, 1) := by decide +kernel
theorem d_Mo_lay_45 : decode b_Mo_lay 45 = .ok (.getfield 26, 3) := by decide +kernel
theorem d_Mo_lay_48 : decode b_Mo_lay 48 = .ok (.iload_n 1, 1) := by decide +kernel
theorem d_Mo_lay_49 : decode b_Mo_lay 49 = .ok (.iaload, 1) := by decide +kernel
theorem d_Mo_lay_50 : decode b_Mo_lay 50 = .ok (.iload_n 3, 1) := by decide +kernel
theorem d_Mo_lay_51 : decode b_Mo_lay 51 = .ok (.iadd, 1) := by decide +kernel
theorem d_Mo_lay_52 : decode b_Mo_lay 52 = .ok (.istore 6, 2) := by decide +kernel
theorem d_Mo_lay_54 : decode b_Mo_lay 54 = .ok (.iload 5, 2) := by decide +kernel
theorem d_Mo_lay_56 : decode b_Mo_lay 56 = .ok (.iconst 0, 1) := by decide +kernel
theorem d_Mo_lay_57 : decode b_Mo_lay 57 = .ok (.aload_n 0, 1) := by decide +kernel
theorem d_Mo_lay_58 : decode b_Mo_lay 58 = .ok (.getfield 92, 3) := by decide +kernel
theorem d_Mo_lay_61 : decode b_Mo_lay 61 = .ok (.iconst 1, 1) := by decide +kernel
theorem d_Mo_lay_62 : decode b_Mo_lay 62 = .ok (.isub, 1) := by decide +kernel
theorem d_Mo_lay_63 : decode b_Mo_lay 63 = .ok (.invokestatic 104, 3) := by decide +kernel
theorem d_Mo_lay_66 : decode b_Mo_lay 66 = .ok (.ifCond .eq 180, 3) := by decide +kernel
theorem d_Mo_lay_69 : decode b_Mo_lay 69 = .ok (.iload 6, 2) := by decide +kernel
theorem d_Mo_lay_71 : decode b_Mo_lay 71 = .ok (.iconst 0, 1) := by decide +kernel
theorem d_Mo_lay_72 : decode b_Mo_lay 72 = .ok (.aload_n 0, 1) := by decide +kernel
theorem d_Mo_lay_73 : decode b_Mo_lay 73 = .ok (.getfield 95, 3) := by decide +kernel
theorem d_Mo_lay_76 : decode b_Mo_lay 76 = .ok (.iconst 1, 1) := by decide +kernel
theorem d_Mo_lay_77 : decode b_Mo_lay 77 = .ok (.isub, 1) := by decide +kernel
theorem d_Mo_lay_78 : decode b_Mo_lay 78 = .ok (.invokestatic 104, 3) := by decide +kernel
theorem d_Mo_lay_81 : decode b_Mo_lay 81 = .ok (.ifCond .eq 165, 3) := by decide +kernel
theorem d_Mo_lay_84 : decode b_Mo_lay 84 = .ok (.aload_n 0, 1) := by decide +kernel
theorem d_Mo_lay_85 : decode b_Mo_lay 85 = .ok (.getfield 16, 3) := by decide +kernel
theorem d_Mo_lay_88 : decode b_Mo_lay 88 = .ok (.iload_n 2, 1) := by decide +kernel
theorem d_Mo_lay_89 : decode b_Mo_lay 89 = .ok (.laload, 1) := by decide +kernel
theorem d_Mo_lay_90 : decode b_Mo_lay 90 = .ok (.aload_n 0, 1) := by decide +kernel
theorem d_Mo_lay_91 : decode b_Mo_lay 91 = .ok (.getfield 29, 3) := by decide +kernel
theorem d_Mo_lay_94 : decode b_Mo_lay 94 = .ok (.iload_n 1, 1) := by decide +kernel
theorem d_Mo_lay_95 : decode b_Mo_lay 95 = .ok (.laload, 1) := by decide +kernel
theorem d_Mo_lay_96 : decode b_Mo_lay 96 = .ok (.lxor, 1) := by decide +kernel
theorem d_Mo_lay_97 : decode b_Mo_lay 97 = .ok (.bipush 8, 2) := by decide +kernel
theorem d_Mo_lay_99 : decode b_Mo_lay 99 = .ok (.iload_n 3, 1) := by decide +kernel
theorem d_Mo_lay_100 : decode b_Mo_lay 100 = .ok (.imul, 1) := by decide +kernel
theorem d_Mo_lay_101 : decode b_Mo_lay 101 = .ok (.iload 4, 2) := by decide +kernel
theorem d_Mo_lay_103 : decode b_Mo_lay 103 = .ok (.iadd, 1) := by decide +kernel
theorem d_Mo_lay_104 : decode b_Mo_lay 104 = .ok (.lshr, 1) := by decide +kernel
theorem d_Mo_lay_105 : decode b_Mo_lay 105 = .ok (.lconst 1, 1) := by decide +kernel
theorem d_Mo_lay_106 : decode b_Mo_lay 106 = .ok (.land, 1) := by decide +kernel
theorem d_Mo_lay_107 : decode b_Mo_lay 107 = .ok (.lconst 1, 1) := by decide +kernel
theorem d_Mo_lay_108 : decode b_Mo_lay 108 = .ok (.lcmp, 1) := by decide +kernel
theorem d_Mo_lay_109 : decode b_Mo_lay 109 = .ok (.ifCond .ne 7, 3) := by decide +kernel
theorem d_Mo_lay_112 : decode b_Mo_lay 112 = .ok (.iconst 1, 1) := by decide +kernel
theorem d_Mo_lay_113 : decode b_Mo_lay 113 = .ok (.goto 4, 3) := by decide +kernel
theorem d_Mo_lay_116 : decode b_Mo_lay 116 = .ok (.iconst 0, 1) := by decide +kernel
theorem d_Mo_lay_117 : decode b_Mo_lay 117 = .ok (.istore 7, 2) := by decide +kernel
theorem d_Mo_lay_119 : decode b_Mo_lay 119 = .ok (.aload_n 0, 1) := by decide +kernel
theorem d_Mo_lay_120 : decode b_Mo_lay 120 = .ok (.getfield 38, 3) := by decide +kernel
theorem d_Mo_lay_123 : decode b_Mo_lay 123 = .ok (.bipush 24, 2) := by decide +kernel
theorem d_Mo_lay_125 : decode b_Mo_lay 125 = .ok (.iload 6, 2) := by decide +kernel
theorem d_Mo_lay_127 : decode b_Mo_lay 127 = .ok (.imul, 1) := by decide +kernel
theorem d_Mo_lay_128 : decode b_Mo_lay 128 = .ok (.iload 5, 2) := by decide +kernel
theorem d_Mo_lay_130 : decode b_Mo_lay 130 = .ok (.iadd, 1) := by decide +kernel
theorem d_Mo_lay_131 : decode b_Mo_lay 131 = .ok (.baload, 1) := by decide +kernel
theorem d_Mo_lay_132 : decode b_Mo_lay 132 = .ok (.istore 8, 2) := by decide +kernel
theorem d_Mo_lay_134 : decode b_Mo_lay 134 = .ok (.aload_n 0, 1) := by decide +kernel
theorem d_Mo_lay_135 : decode b_Mo_lay 135 = .ok (.getfield 32, 3) := by decide +kernel
theorem d_Mo_lay_138 : decode b_Mo_lay 138 = .ok (.iconst 3, 1) := by decide +kernel
theorem d_Mo_lay_139 : decode b_Mo_lay 139 = .ok (.iaload, 1) := by decide +kernel
theorem d_Mo_lay_140 : decode b_Mo_lay 140 = .ok (.istore 9, 2) := by decide +kernel
theorem d_Mo_lay_142 : decode b_Mo_lay 142 = .ok (.aload_n 0, 1) := by decide +kernel
theorem d_Mo_lay_143 : decode b_Mo_lay 143 = .ok (.getfield 38, 3) := by decide +kernel
theorem d_Mo_lay_146 : decode b_Mo_lay 146 = .ok (.bipush 24, 2) := by decide +kernel
theorem d_Mo_lay_148 : decode b_Mo_lay 148 = .ok (.iload 6, 2) := by decide +kernel
theorem d_Mo_lay_150 : decode b_Mo_lay 150 = .ok (.imul, 1) := by decide +kernel
theorem d_Mo_lay_151 : decode b_Mo_lay 151 = .ok (.iload 5, 2) := by decide +kernel
theorem d_Mo_lay_153 : decode b_Mo_lay 153 = .ok (.iadd, 1) := by decide +kernel
theorem d_Mo_lay_154 : decode b_Mo_lay 154 = .ok (.iload 9, 2) := by decide +kernel
theorem d_Mo_lay_156 : decode b_Mo_lay 156 = .ok (.ifCond .ne 21, 3) := by decide +kernel
theorem d_Mo_lay_159 : decode b_Mo_lay 159 = .ok (.iload 8, 2) := by decide +kernel
theorem d_Mo_lay_161 : decode b_Mo_lay 161 = .ok (.ifCond .ne 8, 3) := by decide +kernel
theorem d_Mo_lay_164 : decode b_Mo_lay 164 = .ok (.iload 7, 2) := by decide +kernel
theorem d_Mo_lay_166 : decode b_Mo_lay 166 = .ok (.ifCond .eq 7, 3) := by decide +kernel
theorem d_Mo_lay_169 : decode b_Mo_lay 169 = .ok (.iconst 1, 1) := by decide +kernel
theorem d_Mo_lay_170 : decode b_Mo_lay 170 = .ok (.goto 75, 3) := by decide +kernel
theorem d_Mo_lay_173 : decode b_Mo_lay 173 = .ok (.iconst 0, 1) := by decide +kernel
theorem d_Mo_lay_174 : decode b_Mo_lay 174 = .ok (.goto 71, 3) := by decide +kernel
theorem d_Mo_lay_177 : decode b_Mo_lay 177 = .ok (.iload 9, 2) := by decide +kernel
theorem d_Mo_lay_179 : decode b_Mo_lay 179 = .ok (.iconst 1, 1) := by decide +kernel
theorem d_Mo_lay_180 : decode b_Mo_lay 180 = .ok (.if_icmp .ne 21, 3) := by decide +kernel
theorem d_Mo_lay_183 : decode b_Mo_lay 183 = .ok (.iload 8, 2) := by decide +kernel
theorem d_Mo_lay_185 : decode b_Mo_lay 185 = .ok (.ifCond .eq 12, 3) := by decide +kernel
theorem d_Mo_lay_188 : decode b_Mo_lay 188 = .ok (.iload 7, 2) := by decide +kernel
theorem d_Mo_lay_190 : decode b_Mo_lay 190 = .ok (.ifCond .eq 7, 3) := by decide +kernel
theorem d_Mo_lay_193 : decode b_Mo_lay 193 = .ok (.iconst 1, 1) := by decide +kernel
theorem d_Mo_lay_194 : decode b_Mo_lay 194 = .ok (.goto 51, 3) := by decide +kernel
theorem d_Mo_lay_197 : decode b_Mo_lay 197 = .ok (.iconst 0, 1) := by decide +kernel
theorem d_Mo_lay_198 : decode b_Mo_lay 198 = .ok (.goto 47, 3) := by decide +kernel
theorem d_Mo_lay_201 : decode b_Mo_lay 201 = .ok (.iload 9, 2) := by decide +kernel
theorem d_Mo_lay_203 : decode b_Mo_lay 203 = .ok (.iconst 2, 1) := by decide +kernel
theorem d_Mo_lay_204 : decode b_Mo_lay 204 = .ok (.if_icmp .ne 18, 3) := by decide +kernel
theorem d_Mo_lay_207 : decode b_Mo_lay 207 = .ok (.iload 8, 2) := by decide +kernel
theorem d_Mo_lay_209 : decode b_Mo_lay 209 = .ok (.iload 7, 2) := by decide +kernel
theorem d_Mo_lay_211 : decode b_Mo_lay 211 = .ok (.if_icmp .eq 7, 3) := by decide +kernel
theorem d_Mo_lay_214 : decode b_Mo_lay 214 = .ok (.iconst 1, 1) := by decide +kernel
theorem d_Mo_lay_215 : decode b_Mo_lay 215 = .ok (.goto 30, 3) := by decide +kernel
theorem d_Mo_lay_218 : decode b_Mo_lay 218 = .ok (.iconst 0, 1) := by decide +kernel
theorem d_Mo_lay_219 : decode b_Mo_lay 219 = .ok (.goto 26, 3) := by decide +kernel
theorem d_Mo_lay_222 : decode b_Mo_lay 222 = .ok (.iload 9, 2) := by decide +kernel
theorem d_Mo_lay_224 : decode b_Mo_lay 224 = .ok (.iconst 3, 1) := by decide +kernel
theorem d_Mo_lay_225 : decode b_Mo_lay 225 = .ok (.if_icmp .ne 18, 3) := by decide +kernel
theorem d_Mo_lay_228 : decode b_Mo_lay 228 = .ok (.iload 8, 2) := by decide +kernel
theorem d_Mo_lay_230 : decode b_Mo_lay 230 = .ok (.iload 7, 2) := by decide +kernel
theorem d_Mo_lay_232 : decode b_Mo_lay 232 = .ok (.if_icmp .ne 7, 3) := by decide +kernel
theorem d_Mo_lay_235 : decode b_Mo_lay 235 = .ok (.iconst 1, 1) := by decide +kernel
theorem d_Mo_lay_236 : decode b_Mo_lay 236 = .ok (.goto 9, 3) := by decide +kernel
theorem d_Mo_lay_239 : decode b_Mo_lay 239 = .ok (.iconst 0, 1) := by decide +kernel
theorem d_Mo_lay_240 : decode b_Mo_lay 240 = .ok (.goto 5, 3) := by decide +kernel
theorem d_Mo_lay_243 : decode b_Mo_lay 243 = .ok (.iload 7, 2) := by decide +kernel
theorem d_Mo_lay_245 : decode b_Mo_lay 245 = .ok (.bastore, 1) := by decide +kernel
theorem d_Mo_lay_246 : decode b_Mo_lay 246 = .ok (.iinc 4 1, 3) := by decide +kernel
theorem d_Mo_lay_249 : decode b_Mo_lay 249 = .ok (.goto (-227), 3) := by decide +kernel
theorem d_Mo_lay_252 : decode b_Mo_lay 252 = .ok (.iinc 3 1, 3) := by decide +kernel
theorem d_Mo_lay_255 : decode b_Mo_lay 255 = .ok (.goto (-246), 3) := by decide +kernel
theorem d_Mo_lay_258 : decode b_Mo_lay 258 = .ok (.return_, 1) := by decide +kernel
theorem d_Mo_compose_0 : decode b_Mo_compose 0 = .ok (.aload_n 0, 1) := by decide +kernel
theorem d_Mo_compose_1 : decode b_Mo_compose 1 = .ok (.iconst 0, 1) := by decide +kernel
theorem d_Mo_compose_2 : decode b_Mo_compose 2 = .ok (.putfield 101, 3) := by decide +kernel
theorem d_Mo_compose_5 : decode b_Mo_compose 5 = .ok (.iconst 0, 1) := by decide +kernel
theorem d_Mo_compose_6 : decode b_Mo_compose 6 = .ok (.istore_n 1, 1) := by decide +kernel
theorem d_Mo_compose_7 : decode b_Mo_compose 7 = .ok (.iload_n 1, 1) := by decide +kernel
theorem d_Mo_compose_8 : decode b_Mo_compose 8 = .ok (.sipush 576, 3) := by decide +kernel
theorem d_Mo_compose_11 : decode b_Mo_compose 11 = .ok (.if_icmp .ge 16, 3) := by decide +kernel
theorem d_Mo_compose_14 : decode b_Mo_compose 14 = .ok (.aload_n 0, 1) := by decide +kernel
theorem d_Mo_compose_15 : decode b_Mo_compose 15 = .ok (.getfield 38, 3) := by decide +kernel
theorem d_Mo_compose_18 : decode b_Mo_compose 18 = .ok (.iload_n 1, 1) := by decide +kernel
theorem d_Mo_compose_19 : decode b_Mo_compose 19 = .ok (.iconst 0, 1) := by decide +kernel
theorem d_Mo_compose_20 : decode b_Mo_compose 20 = .ok (.bastore, 1) := by decide +kernel
theorem d_Mo_compose_21 : decode b_Mo_compose 21 = .ok (.iinc 1 1, 3) := by decide +kernel
theorem d_Mo_compose_24 : decode b_Mo_compose 24 = .ok (.goto (-17), 3) := by decide +kernel
theorem d_Mo_compose_27 : decode b_Mo_compose 27 = .ok (.aload_n 0, 1) := by decide +kernel
theorem d_Mo_compose_28 : decode b_Mo_compose 28 = .ok (.invokevirtual 136, 3) := by decide +kernel
theorem d_Mo_compose_31 : decode b_Mo_compose 31 = .ok (.iconst 0, 1) := by decide +kernel
theorem d_Mo_compose_32 : decode b_Mo_compose 32 = .ok (.istore_n 1, 1) := by decide +kernel
theorem d_Mo_compose_33 : decode b_Mo_compose 33 = .ok (.iload_n 1, 1) := by decide +kernel
theorem d_Mo_compose_34 : decode b_Mo_compose 34 = .ok (.aload_n 0, 1) := by decide +kernel
theorem d_Mo_compose_35 : decode b_Mo_compose 35 = .ok (.getfield 116, 3) := by decide +kernel
theorem d_Mo_compose_38 : decode b_Mo_compose 38 = .ok (.if_icmp .ge 19, 3) := by decide +kernel
theorem d_Mo_compose_41 : decode b_Mo_compose 41 = .ok (.aload_n 0, 1) := by decide +kernel
theorem d_Mo_compose_42 : decode b_Mo_compose 42 = .ok (.aload_n 0, 1) := by decide +kernel
theorem d_Mo_compose_43 : decode b_Mo_compose 43 = .ok (.getfield 35, 3) := by decide +kernel
theorem d_Mo_compose_46 : decode b_Mo_compose 46 = .ok (.iload_n 1, 1) := by decide +kernel
theorem d_Mo_compose_47 : decode b_Mo_compose 47 = .ok (.iaload, 1) := by decide +kernel
theorem d_Mo_compose_48 : decode b_Mo_compose 48 = .ok (.invokevirtual 139, 3) := by decide +kernel
theorem d_Mo_compose_51 : decode b_Mo_compose 51 = .ok (.iinc 1 1, 3) := by decide +kernel
theorem d_Mo_compose_54 : decode b_Mo_compose 54 = .ok (.goto (-21), 3) := by decide +kernel
theorem d_Mo_compose_57 : decode b_Mo_compose 57 = .ok (.iconst 0, 1) := by decide +kernel
theorem d_Mo_compose_58 : decode b_Mo_compose 58 = .ok (.istore_n 1, 1) := by decide +kernel
theorem d_Mo_compose_59 : decode b_Mo_compose 59 = .ok (.iconst 0, 1) := by decide +kernel
theorem d_Mo_compose_60 : decode b_Mo_compose 60 = .ok (.istore_n 2, 1) := by decide +kernel
theorem d_Mo_compose_61 : decode b_Mo_compose 61 = .ok (.iload_n 2, 1) := by decide +kernel
theorem d_Mo_compose_62 : decode b_Mo_compose 62 = .ok (.sipush 576, 3) := by decide +kernel
theorem d_Mo_compose_65 : decode b_Mo_compose 65 = .ok (.if_icmp .ge 26, 3) := by decide +kernel
theorem d_Mo_compose_68 : decode b_Mo_compose 68 = .ok (.aload_n 0, 1) := by decide +kernel
theorem d_Mo_compose_69 : decode b_Mo_compose 69 = .ok (.getfield 38, 3) := by decide +kernel
theorem d_Mo_compose_72 : decode b_Mo_compose 72 = .ok (.iload_n 2, 1) := by decide +kernel
theorem d_Mo_compose_73 : decode b_Mo_compose 73 = .ok (.baload, 1) := by decide +kernel
theorem d_Mo_compose_74 : decode b_Mo_compose 74 = .ok (.ifCond .eq 9, 3) := by decide +kernel
theorem d_Mo_compose_77 : decode b_Mo_compose 77 = .ok (.iload_n 1, 1) := by decide +kernel
theorem d_Mo_compose_78 : decode b_Mo_compose 78 = .ok (.iconst 1, 1) := by decide +kernel
theorem d_Mo_compose_79 : decode b_Mo_compose 79 = .ok (.iadd, 1) := by decide +kernel
theorem d_Mo_compose_80 : decode b_Mo_compose 80 = .ok (.goto 4, 3) := by decide +kernel
theorem d_Mo_compose_83 : decode b_Mo_compose 83 = .ok (.iload_n 1, 1) := by decide +kernel
theorem d_Mo_compose_84 : decode b_Mo_compose 84 = .ok (.istore_n 1, 1) := by decide +kernel
theorem d_Mo_compose_85 : decode b_Mo_compose 85 = .ok (.iinc 2 1, 3) := by decide +kernel
theorem d_Mo_compose_88 : decode b_Mo_compose 88 = .ok (.goto (-27), 3) := by decide +kernel
theorem d_Mo_compose_91 : decode b_Mo_compose 91 = .ok (.iload_n 1, 1) := by decide +kernel
theorem d_Mo_compose_92 : decode b_Mo_compose 92 = .ok (.ireturn, 1) := by decide +kernel
theorem d_Mo_at_0 : decode b_Mo_at 0 = .ok (.aload_n 0, 1) := by decide +kernel
theorem d_Mo_at_1 : decode b_Mo_at 1 = .ok (.iload_n 1, 1) := by decide +kernel
theorem d_Mo_at_2 : decode b_Mo_at 2 = .ok (.iconst 0, 1) := by decide +kernel
theorem d_Mo_at_3 : decode b_Mo_at 3 = .ok (.aload_n 0, 1) := by decide +kernel
theorem d_Mo_at_4 : decode b_Mo_at 4 = .ok (.getfield 92, 3) := by decide +kernel
theorem d_Mo_at_7 : decode b_Mo_at 7 = .ok (.iconst 1, 1) := by decide +kernel
theorem d_Mo_at_8 : decode b_Mo_at 8 = .ok (.isub, 1) := by decide +kernel
theorem d_Mo_at_9 : decode b_Mo_at 9 = .ok (.invokestatic 104, 3) := by decide +kernel
theorem d_Mo_at_12 : decode b_Mo_at 12 = .ok (.ifCond .eq 21, 3) := by decide +kernel
theorem d_Mo_at_15 : decode b_Mo_at 15 = .ok (.iload_n 2, 1) := by decide +kernel
theorem d_Mo_at_16 : decode b_Mo_at 16 = .ok (.iconst 0, 1) := by decide +kernel
theorem d_Mo_at_17 : decode b_Mo_at 17 = .ok (.aload_n 0, 1) := by decide +kernel
theorem d_Mo_at_18 : decode b_Mo_at 18 = .ok (.getfield 95, 3) := by decide +kernel
theorem d_Mo_at_21 : decode b_Mo_at 21 = .ok (.iconst 1, 1) := by decide +kernel
theorem d_Mo_at_22 : decode b_Mo_at 22 = .ok (.isub, 1) := by decide +kernel
theorem d_Mo_at_23 : decode b_Mo_at 23 = .ok (.invokestatic 104, 3) := by decide +kernel
theorem d_Mo_at_26 : decode b_Mo_at 26 = .ok (.ifCond .eq 7, 3) := by decide +kernel
theorem d_Mo_at_29 : decode b_Mo_at 29 = .ok (.iconst 0, 1) := by decide +kernel
theorem d_Mo_at_30 : decode b_Mo_at 30 = .ok (.goto 4, 3) := by decide +kernel
theorem d_Mo_at_33 : decode b_Mo_at 33 = .ok (.iconst 1, 1) := by decide +kernel
theorem d_Mo_at_34 : decode b_Mo_at 34 = .ok (.putfield 101, 3) := by decide +kernel
theorem d_Mo_at_37 : decode b_Mo_at 37 = .ok (.aload_n 0, 1) := by decide +kernel
theorem d_Mo_at_38 : decode b_Mo_at 38 = .ok (.getfield 101, 3) := by decide +kernel
theorem d_Mo_at_41 : decode b_Mo_at 41 = .ok (.ifCond .ne 21, 3) := by decide +kernel
theorem d_Mo_at_44 : decode b_Mo_at 44 = .ok (.aload_n 0, 1) := by decide +kernel
theorem d_Mo_at_45 : decode b_Mo_at 45 = .ok (.getfield 38, 3) := by decide +kernel
theorem d_Mo_at_48 : decode b_Mo_at 48 = .ok (.bipush 24, 2) := by decide +kernel
theorem d_Mo_at_50 : decode b_Mo_at 50 = .ok (.iload_n 2, 1) := by decide +kernel
theorem d_Mo_at_51 : decode b_Mo_at 51 = .ok (.imul, 1) := by decide +kernel
theorem d_Mo_at_52 : decode b_Mo_at 52 = .ok (.iload_n 1, 1) := by decide +kernel
theorem d_Mo_at_53 : decode b_Mo_at 53 = .ok (.iadd, 1) := by decide +kernel
theorem d_Mo_at_54 : decode b_Mo_at 54 = .ok (.baload, 1) := by decide +kernel
theorem d_Mo_at_55 : decode b_Mo_at 55 = .ok (.ifCond .eq 7, 3) := by decide +kernel
theorem d_Mo_at_58 : decode b_Mo_at 58 = .ok (.iconst 1, 1) := by decide +kernel
theorem d_Mo_at_59 : decode b_Mo_at 59 = .ok (.goto 4, 3) := by decide +kernel
theorem d_Mo_at_62 : decode b_Mo_at 62 = .ok (.iconst 0, 1) := by decide +kernel
theorem d_Mo_at_63 : decode b_Mo_at 63 = .ok (.ireturn, 1) := by decide +kernel
theorem d_Mo_leastNode_0 : decode b_Mo_leastNode 0 = .ok (.iconst (-1), 1) := by decide +kernel
theorem d_Mo_leastNode_1 : decode b_Mo_leastNode 1 = .ok (.istore_n 2, 1) := by decide +kernel
theorem d_Mo_leastNode_2 : decode b_Mo_leastNode 2 = .ok (.iconst 0, 1) := by decide +kernel
theorem d_Mo_leastNode_3 : decode b_Mo_leastNode 3 = .ok (.istore_n 3, 1) := by decide +kernel
theorem d_Mo_leastNode_4 : decode b_Mo_leastNode 4 = .ok (.iload_n 3, 1) := by decide +kernel
theorem d_Mo_leastNode_5 : decode b_Mo_leastNode 5 = .ok (.iload_n 1, 1) := by decide +kernel
theorem d_Mo_leastNode_6 : decode b_Mo_leastNode 6 = .ok (.if_icmp .ge 53, 3) := by decide +kernel
theorem d_Mo_leastNode_9 : decode b_Mo_leastNode 9 = .ok (.aload_n 0, 1) := by decide +kernel
theorem d_Mo_leastNode_10 : decode b_Mo_leastNode 10 = .ok (.getfield 60, 3) := by decide +kernel
theorem d_Mo_leastNode_13 : decode b_Mo_leastNode 13 = .ok (.iload_n 3, 1) := by decide +kernel
theorem d_Mo_leastNode_14 : decode b_Mo_leastNode 14 = .ok (.baload, 1) := by decide +kernel
theorem d_Mo_leastNode_15 : decode b_Mo_leastNode 15 = .ok (.ifCond .ne 36, 3) := by decide +kernel
theorem d_Mo_leastNode_18 : decode b_Mo_leastNode 18 = .ok (.aload_n 0, 1) := by decide +kernel
theorem d_Mo_leastNode_19 : decode b_Mo_leastNode 19 = .ok (.getfield 54, 3) := by decide +kernel
theorem d_Mo_leastNode_22 : decode b_Mo_leastNode 22 = .ok (.iload_n 3, 1) := by decide +kernel
theorem d_Mo_leastNode_23 : decode b_Mo_leastNode 23 = .ok (.iaload, 1) := by decide +kernel
theorem d_Mo_leastNode_24 : decode b_Mo_leastNode 24 = .ok (.ifCond .le 27, 3) := by decide +kernel
theorem d_Mo_leastNode_27 : decode b_Mo_leastNode 27 = .ok (.iload_n 2, 1) := by decide +kernel
theorem d_Mo_leastNode_28 : decode b_Mo_leastNode 28 = .ok (.iconst (-1), 1) := by decide +kernel
theorem d_Mo_leastNode_29 : decode b_Mo_leastNode 29 = .ok (.if_icmp .eq 18, 3) := by decide +kernel
theorem d_Mo_leastNode_32 : decode b_Mo_leastNode 32 = .ok (.aload_n 0, 1) := by decide +kernel
theorem d_Mo_leastNode_33 : decode b_Mo_leastNode 33 = .ok (.getfield 54, 3) := by decide +kernel
theorem d_Mo_leastNode_36 : decode b_Mo_leastNode 36 = .ok (.iload_n 3, 1) := by decide +kernel
theorem d_Mo_leastNode_37 : decode b_Mo_leastNode 37 = .ok (.iaload, 1) := by decide +kernel
theorem d_Mo_leastNode_38 : decode b_Mo_leastNode 38 = .ok (.aload_n 0, 1) := by decide +kernel
theorem d_Mo_leastNode_39 : decode b_Mo_leastNode 39 = .ok (.getfield 54, 3) := by decide +kernel
theorem d_Mo_leastNode_42 : decode b_Mo_leastNode 42 = .ok (.iload_n 2, 1) := by decide +kernel
theorem d_Mo_leastNode_43 : decode b_Mo_leastNode 43 = .ok (.iaload, 1) := by decide +kernel
theorem d_Mo_leastNode_44 : decode b_Mo_leastNode 44 = .ok (.if_icmp .ge 7, 3) := by decide +kernel
theorem d_Mo_leastNode_47 : decode b_Mo_leastNode 47 = .ok (.iload_n 3, 1) := by decide +kernel
theorem d_Mo_leastNode_48 : decode b_Mo_leastNode 48 = .ok (.goto 4, 3) := by decide +kernel
theorem d_Mo_leastNode_51 : decode b_Mo_leastNode 51 = .ok (.iload_n 2, 1) := by decide +kernel
theorem d_Mo_leastNode_52 : decode b_Mo_leastNode 52 = .ok (.istore_n 2, 1) := by decide +kernel
theorem d_Mo_leastNode_53 : decode b_Mo_leastNode 53 = .ok (.iinc 3 1, 3) := by decide +kernel
theorem d_Mo_leastNode_56 : decode b_Mo_leastNode 56 = .ok (.goto (-52), 3) := by decide +kernel
theorem d_Mo_leastNode_59 : decode b_Mo_leastNode 59 = .ok (.iload_n 2, 1) := by decide +kernel
theorem d_Mo_leastNode_60 : decode b_Mo_leastNode 60 = .ok (.ireturn, 1) := by decide +kernel
theorem d_Mo_findLengths_0 : decode b_Mo_findLengths 0 = .ok (.iconst 0, 1) := by decide +kernel
theorem d_Mo_findLengths_1 : decode b_Mo_findLengths 1 = .ok (.istore_n 1, 1) := by decide +kernel
theorem d_Mo_findLengths_2 : decode b_Mo_findLengths 2 = .ok (.iconst 0, 1) := by decide +kernel
theorem d_Mo_findLengths_3 : decode b_Mo_findLengths 3 = .ok (.istore_n 2, 1) := by decide +kernel
theorem d_Mo_findLengths_4 : decode b_Mo_findLengths 4 = .ok (.iload_n 2, 1) := by decide +kernel
theorem d_Mo_findLengths_5 : decode b_Mo_findLengths 5 = .ok (.bipush 32, 2) := by decide +kernel
theorem d_Mo_findLengths_7 : decode b_Mo_findLengths 7 = .ok (.if_icmp .ge 30, 3) := by decide +kernel
theorem d_Mo_findLengths_10 : decode b_Mo_findLengths 10 = .ok (.aload_n 0, 1) := by decide +kernel
theorem d_Mo_findLengths_11 : decode b_Mo_findLengths 11 = .ok (.getfield 54, 3) := by decide +kernel
theorem d_Mo_findLengths_14 : decode b_Mo_findLengths 14 = .ok (.iload_n 2, 1) := by decide +kernel
theorem d_Mo_findLengths_15 : decode b_Mo_findLengths 15 = .ok (.iconst 0, 1) := by decide +kernel
theorem d_Mo_findLengths_16 : decode b_Mo_findLengths 16 = .ok (.iastore, 1) := by decide +kernel
theorem d_Mo_findLengths_17 : decode b_Mo_findLengths 17 = .ok (.aload_n 0, 1) := by decide +kernel
theorem d_Mo_findLengths_18 : decode b_Mo_findLengths 18 = .ok (.getfield 60, 3) := by decide +kernel
theorem d_Mo_findLengths_21 : decode b_Mo_findLengths 21 = .ok (.iload_n 2, 1) := by decide +kernel
theorem d_Mo_findLengths_22 : decode b_Mo_findLengths 22 = .ok (.iconst 0, 1) := by decide +kernel
theorem d_Mo_findLengths_23 : decode b_Mo_findLengths 23 = .ok (.bastore, 1) := by decide +kernel
theorem d_Mo_findLengths_24 : decode b_Mo_findLengths 24 = .ok (.aload_n 0, 1) := by decide +kernel
theorem d_Mo_findLengths_25 : decode b_Mo_findLengths 25 = .ok (.getfield 57, 3) := by decide +kernel
theorem d_Mo_findLengths_28 : decode b_Mo_findLengths 28 = .ok (.iload_n 2, 1) := by decide +kernel
theorem d_Mo_findLengths_29 : decode b_Mo_findLengths 29 = .ok (.iconst (-1), 1) := by decide +kernel
theorem d_Mo_findLengths_30 : decode b_Mo_findLengths 30 = .ok (.iastore, 1) := by decide +kernel
theorem d_Mo_findLengths_31 : decode b_Mo_findLengths 31 = .ok (.iinc 2 1, 3) := by decide +kernel
theorem d_Mo_findLengths_34 : decode b_Mo_findLengths 34 = .ok (.goto (-30), 3) := by decide +kernel
theorem d_Mo_findLengths_37 : decode b_Mo_findLengths 37 = .ok (.iconst 0, 1) := by decide +kernel
theorem d_Mo_findLengths_38 : decode b_Mo_findLengths 38 = .ok (.istore_n 2, 1) := by decide +kernel
theorem d_Mo_findLengths_39 : decode b_Mo_findLengths 39 = .ok (.iload_n 2, 1) := by decide +kernel
theorem d_Mo_findLengths_40 : decode b_Mo_findLengths 40 = .ok (.aload_n 0, 1) := by decide +kernel
theorem d_Mo_findLengths_41 : decode b_Mo_findLengths 41 = .ok (.getfield 116, 3) := by decide +kernel
theorem d_Mo_findLengths_44 : decode b_Mo_findLengths 44 = .ok (.if_icmp .ge 24, 3) := by decide +kernel
theorem d_Mo_findLengths_47 : decode b_Mo_findLengths 47 = .ok (.aload_n 0, 1) := by decide +kernel
theorem d_Mo_findLengths_48 : decode b_Mo_findLengths 48 = .ok (.getfield 54, 3) := by decide +kernel
theorem d_Mo_findLengths_51 : decode b_Mo_findLengths 51 = .ok (.aload_n 0, 1) := by decide +kernel
theorem d_Mo_findLengths_52 : decode b_Mo_findLengths 52 = .ok (.getfield 20, 3) := by decide +kernel
theorem d_Mo_findLengths_55 : decode b_Mo_findLengths 55 = .ok (.iload_n 2, 1) := by decide +kernel
theorem d_Mo_findLengths_56 : decode b_Mo_findLengths 56 = .ok (.iaload, 1) := by decide +kernel
theorem d_Mo_findLengths_57 : decode b_Mo_findLengths 57 = .ok (.dup2, 1) := by decide +kernel
theorem d_Mo_findLengths_58 : decode b_Mo_findLengths 58 = .ok (.iaload, 1) := by decide +kernel
theorem d_Mo_findLengths_59 : decode b_Mo_findLengths 59 = .ok (.iconst 1, 1) := by decide +kernel
theorem d_Mo_findLengths_60 : decode b_Mo_findLengths 60 = .ok (.iadd, 1) := by decide +kernel
theorem d_Mo_findLengths_61 : decode b_Mo_findLengths 61 = .ok (.iastore, 1) := by decide +kernel
theorem d_Mo_findLengths_62 : decode b_Mo_findLengths 62 = .ok (.iinc 2 1, 3) := by decide +kernel
theorem d_Mo_findLengths_65 : decode b_Mo_findLengths 65 = .ok (.goto (-26), 3) := by decide +kernel
theorem d_Mo_findLengths_68 : decode b_Mo_findLengths 68 = .ok (.iconst 0, 1) := by decide +kernel
theorem d_Mo_findLengths_69 : decode b_Mo_findLengths 69 = .ok (.istore_n 2, 1) := by decide +kernel
theorem d_Mo_findLengths_70 : decode b_Mo_findLengths 70 = .ok (.iload_n 2, 1) := by decide +kernel
theorem d_Mo_findLengths_71 : decode b_Mo_findLengths 71 = .ok (.aload_n 0, 1) := by decide +kernel
theorem d_Mo_findLengths_72 : decode b_Mo_findLengths 72 = .ok (.getfield 108, 3) := by decide +kernel
theorem d_Mo_findLengths_75 : decode b_Mo_findLengths 75 = .ok (.if_icmp .ge 26, 3) := by decide +kernel
theorem d_Mo_findLengths_78 : decode b_Mo_findLengths 78 = .ok (.aload_n 0, 1) := by decide +kernel
theorem d_Mo_findLengths_79 : decode b_Mo_findLengths 79 = .ok (.getfield 54, 3) := by decide +kernel
theorem d_Mo_findLengths_82 : decode b_Mo_findLengths 82 = .ok (.iload_n 2, 1) := by decide +kernel
theorem d_Mo_findLengths_83 : decode b_Mo_findLengths 83 = .ok (.iaload, 1) := by decide +kernel
theorem d_Mo_findLengths_84 : decode b_Mo_findLengths 84 = .ok (.ifCond .le 9, 3) := by decide +kernel
theorem d_Mo_findLengths_87 : decode b_Mo_findLengths 87 = .ok (.iload_n 1, 1) := by decide +kernel
theorem d_Mo_findLengths_88 : decode b_Mo_findLengths 88 = .ok (.iconst 1, 1) := by decide +kernel
theorem d_Mo_findLengths_89 : decode b_Mo_findLengths 89 = .ok (.iadd, 1) := by decide +kernel
theorem d_Mo_findLengths_90 : decode b_Mo_findLengths 90 = .ok (.goto 4, 3) := by decide +kernel
theorem d_Mo_findLengths_93 : decode b_Mo_findLengths 93 = .ok (.iload_n 1, 1) := by decide +kernel
theorem d_Mo_findLengths_94 : decode b_Mo_findLengths 94 = .ok (.istore_n 1, 1) := by decide +kernel
theorem d_Mo_findLengths_95 : decode b_Mo_findLengths 95 = .ok (.iinc 2 1, 3) := by decide +kernel
theorem d_Mo_findLengths_98 : decode b_Mo_findLengths 98 = .ok (.goto (-28), 3) := by decide +kernel
theorem d_Mo_findLengths_101 : decode b_Mo_findLengths 101 = .ok (.bipush 16, 2) := by decide +kernel
theorem d_Mo_findLengths_103 : decode b_Mo_findLengths 103 = .ok (.istore_n 2, 1) := by decide +kernel
theorem d_Mo_findLengths_104 : decode b_Mo_findLengths 104 = .ok (.iload_n 1, 1) := by decide +kernel
theorem d_Mo_findLengths_105 : decode b_Mo_findLengths 105 = .ok (.istore_n 3, 1) := by decide +kernel
theorem d_Mo_findLengths_106 : decode b_Mo_findLengths 106 = .ok (.iload_n 3, 1) := by decide +kernel
theorem d_Mo_findLengths_107 : decode b_Mo_findLengths 107 = .ok (.iconst 1, 1) := by decide +kernel
theorem d_Mo_findLengths_108 : decode b_Mo_findLengths 108 = .ok (.if_icmp .le 79, 3) := by decide +kernel
theorem d_Mo_findLengths_111 : decode b_Mo_findLengths 111 = .ok (.aload_n 0, 1) := by decide +kernel
theorem d_Mo_findLengths_112 : decode b_Mo_findLengths 112 = .ok (.iload_n 2, 1) := by decide +kernel
theorem d_Mo_findLengths_113 : decode b_Mo_findLengths 113 = .ok (.invokevirtual 143, 3) := by decide +kernel
theorem d_Mo_findLengths_116 : decode b_Mo_findLengths 116 = .ok (.istore 4, 2) := by decide +kernel
theorem d_Mo_findLengths_118 : decode b_Mo_findLengths 118 = .ok (.aload_n 0, 1) := by decide +kernel
theorem d_Mo_findLengths_119 : decode b_Mo_findLengths 119 = .ok (.getfield 60, 3) := by decide +kernel
theorem d_Mo_findLengths_122 : decode b_Mo_findLengths 122 = .ok (.iload 4, 2) := by decide +kernel
theorem d_Mo_findLengths_124 : decode b_Mo_findLengths 124 = .ok (.iconst 1, 1) := by decide +kernel
theorem d_Mo_findLengths_125 : decode b_Mo_findLengths 125 = .ok (.bastore, 1) := by decide +kernel
theorem d_Mo_findLengths_126 : decode b_Mo_findLengths 126 = .ok (.aload_n 0, 1) := by decide +kernel
theorem d_Mo_findLengths_127 : decode b_Mo_findLengths 127 = .ok (.iload_n 2, 1) := by decide +kernel
theorem d_Mo_findLengths_128 : decode b_Mo_findLengths 128 = .ok (.invokevirtual 143, 3) := by decide +kernel
theorem d_Mo_findLengths_131 : decode b_Mo_findLengths 131 = .ok (.istore 5, 2) := by decide +kernel
theorem d_Mo_findLengths_133 : decode b_Mo_findLengths 133 = .ok (.aload_n 0, 1) := by decide +kernel
theorem d_Mo_findLengths_134 : decode b_Mo_findLengths 134 = .ok (.getfield 60, 3) := by decide +kernel
theorem d_Mo_findLengths_137 : decode b_Mo_findLengths 137 = .ok (.iload 5, 2) := by decide +kernel
theorem d_Mo_findLengths_139 : decode b_Mo_findLengths 139 = .ok (.iconst 1, 1) := by decide +kernel
theorem d_Mo_findLengths_140 : decode b_Mo_findLengths 140 = .ok (.bastore, 1) := by decide +kernel
theorem d_Mo_findLengths_141 : decode b_Mo_findLengths 141 = .ok (.aload_n 0, 1) := by decide +kernel
theorem d_Mo_findLengths_142 : decode b_Mo_findLengths 142 = .ok (.getfield 54, 3) := by decide +kernel
theorem d_Mo_findLengths_145 : decode b_Mo_findLengths 145 = .ok (.iload_n 2, 1) := by decide +kernel
theorem d_Mo_findLengths_146 : decode b_Mo_findLengths 146 = .ok (.aload_n 0, 1) := by decide +kernel
theorem d_Mo_findLengths_147 : decode b_Mo_findLengths 147 = .ok (.getfield 54, 3) := by decide +kernel
theorem d_Mo_findLengths_150 : decode b_Mo_findLengths 150 = .ok (.iload 4, 2) := by decide +kernel
theorem d_Mo_findLengths_152 : decode b_Mo_findLengths 152 = .ok (.iaload, 1) := by decide +kernel
theorem d_Mo_findLengths_153 : decode b_Mo_findLengths 153 = .ok (.aload_n 0, 1) := by decide +kernel
theorem d_Mo_findLengths_154 : decode b_Mo_findLengths 154 = .ok (.getfield 54, 3) := by decide +kernel
theorem d_Mo_findLengths_157 : decode b_Mo_findLengths 157 = .ok (.iload 5, 2) := by decide +kernel
theorem d_Mo_findLengths_159 : decode b_Mo_findLengths 159 = .ok (.iaload, 1) := by decide +kernel
theorem d_Mo_findLengths_160 : decode b_Mo_findLengths 160 = .ok (.iadd, 1) := by decide +kernel
theorem d_Mo_findLengths_161 : decode b_Mo_findLengths 161 = .ok (.iastore, 1) := by decide +kernel
theorem d_Mo_findLengths_162 : decode b_Mo_findLengths 162 = .ok (.aload_n 0, 1) := by decide +kernel
theorem d_Mo_findLengths_163 : decode b_Mo_findLengths 163 = .ok (.getfield 57, 3) := by decide +kernel
theorem d_Mo_findLengths_166 : decode b_Mo_findLengths 166 = .ok (.iload 4, 2) := by decide +kernel
theorem d_Mo_findLengths_168 : decode b_Mo_findLengths 168 = .ok (.iload_n 2, 1) := by decide +kernel
theorem d_Mo_findLengths_169 : decode b_Mo_findLengths 169 = .ok (.iastore, 1) := by decide +kernel
theorem d_Mo_findLengths_170 : decode b_Mo_findLengths 170 = .ok (.aload_n 0, 1) := by decide +kernel
theorem d_Mo_findLengths_171 : decode b_Mo_findLengths 171 = .ok (.getfield 57, 3) := by decide +kernel
theorem d_Mo_findLengths_174 : decode b_Mo_findLengths 174 = .ok (.iload 5, 2) := by decide +kernel
theorem d_Mo_findLengths_176 : decode b_Mo_findLengths 176 = .ok (.iload_n 2, 1) := by decide +kernel
theorem d_Mo_findLengths_177 : decode b_Mo_findLengths 177 = .ok (.iastore, 1) := by decide +kernel
theorem d_Mo_findLengths_178 : decode b_Mo_findLengths 178 = .ok (.iinc 2 1, 3) := by decide +kernel
theorem d_Mo_findLengths_181 : decode b_Mo_findLengths 181 = .ok (.iinc 3 (-1), 3) := by decide +kernel
theorem d_Mo_findLengths_184 : decode b_Mo_findLengths 184 = .ok (.goto (-78), 3) := by decide +kernel
theorem d_Mo_findLengths_187 : decode b_Mo_findLengths 187 = .ok (.iconst 0, 1) := by decide +kernel
theorem d_Mo_findLengths_188 : decode b_Mo_findLengths 188 = .ok (.istore_n 3, 1) := by decide +kernel
theorem d_Mo_findLengths_189 : decode b_Mo_findLengths 189 = .ok (.iload_n 3, 1) := by decide +kernel
theorem d_Mo_findLengths_190 : decode b_Mo_findLengths 190 = .ok (.bipush 16, 2) := by decide +kernel
theorem d_Mo_findLengths_192 : decode b_Mo_findLengths 192 = .ok (.if_icmp .ge 75, 3) := by decide +kernel
theorem d_Mo_findLengths_195 : decode b_Mo_findLengths 195 = .ok (.iconst 0, 1) := by decide +kernel
theorem d_Mo_findLengths_196 : decode b_Mo_findLengths 196 = .ok (.istore 4, 2) := by decide +kernel
theorem d_Mo_findLengths_198 : decode b_Mo_findLengths 198 = .ok (.aload_n 0, 1) := by decide +kernel
theorem d_Mo_findLengths_199 : decode b_Mo_findLengths 199 = .ok (.getfield 57, 3) := by decide +kernel
theorem d_Mo_findLengths_202 : decode b_Mo_findLengths 202 = .ok (.iload_n 3, 1) := by decide +kernel
theorem d_Mo_findLengths_203 : decode b_Mo_findLengths 203 = .ok (.iaload, 1) := by decide +kernel
theorem d_Mo_findLengths_204 : decode b_Mo_findLengths 204 = .ok (.istore 5, 2) := by decide +kernel
theorem d_Mo_findLengths_206 : decode b_Mo_findLengths 206 = .ok (.iload 5, 2) := by decide +kernel
theorem d_Mo_findLengths_208 : decode b_Mo_findLengths 208 = .ok (.iconst (-1), 1) := by decide +kernel
theorem d_Mo_findLengths_209 : decode b_Mo_findLengths 209 = .ok (.if_icmp .eq 18, 3) := by decide +kernel
theorem d_Mo_findLengths_212 : decode b_Mo_findLengths 212 = .ok (.iinc 4 1, 3) := by decide +kernel
theorem d_Mo_findLengths_215 : decode b_Mo_findLengths 215 = .ok (.aload_n 0, 1) := by decide +kernel
theorem d_Mo_findLengths_216 : decode b_Mo_findLengths 216 = .ok (.getfield 57, 3) := by decide +kernel
theorem d_Mo_findLengths_219 : decode b_Mo_findLengths 219 = .ok (.iload 5, 2) := by decide +kernel
theorem d_Mo_findLengths_221 : decode b_Mo_findLengths 221 = .ok (.iaload, 1) := by decide +kernel
theorem d_Mo_findLengths_222 : decode b_Mo_findLengths 222 = .ok (.istore 5, 2) := by decide +kernel
theorem d_Mo_findLengths_224 : decode b_Mo_findLengths 224 = .ok (.goto (-18), 3) := by decide +kernel
theorem d_Mo_findLengths_227 : decode b_Mo_findLengths 227 = .ok (.aload_n 0, 1) := by decide +kernel
theorem d_Mo_findLengths_228 : decode b_Mo_findLengths 228 = .ok (.getfield 48, 3) := by decide +kernel
theorem d_Mo_findLengths_231 : decode b_Mo_findLengths 231 = .ok (.iload_n 3, 1) := by decide +kernel
theorem d_Mo_findLengths_232 : decode b_Mo_findLengths 232 = .ok (.iload_n 3, 1) := by decide +kernel
theorem d_Mo_findLengths_233 : decode b_Mo_findLengths 233 = .ok (.aload_n 0, 1) := by decide +kernel
theorem d_Mo_findLengths_234 : decode b_Mo_findLengths 234 = .ok (.getfield 108, 3) := by decide +kernel
theorem d_Mo_findLengths_237 : decode b_Mo_findLengths 237 = .ok (.if_icmp .ge 21, 3) := by decide +kernel
theorem d_Mo_findLengths_240 : decode b_Mo_findLengths 240 = .ok (.aload_n 0, 1) := by decide +kernel
theorem d_Mo_findLengths_241 : decode b_Mo_findLengths 241 = .ok (.getfield 54, 3) := by decide +kernel
theorem d_Mo_findLengths_244 : decode b_Mo_findLengths 244 = .ok (.iload_n 3, 1) := by decide +kernel
theorem d_Mo_findLengths_245 : decode b_Mo_findLengths 245 = .ok (.iaload, 1) := by decide +kernel
theorem d_Mo_findLengths_246 : decode b_Mo_findLengths 246 = .ok (.ifCond .le 12, 3) := by decide +kernel
theorem d_Mo_findLengths_249 : decode b_Mo_findLengths 249 = .ok (.iload_n 1, 1) := by decide +kernel
theorem d_Mo_findLengths_250 : decode b_Mo_findLengths 250 = .ok (.iconst 1, 1) := by decide +kernel
theorem d_Mo_findLengths_251 : decode b_Mo_findLengths 251 = .ok (.if_icmp .ne 7, 3) := by decide +kernel
theorem d_Mo_findLengths_254 : decode b_Mo_findLengths 254 = .ok (.iconst 1, 1) := by decide +kernel
theorem d_Mo_findLengths_255 : decode b_Mo_findLengths 255 = .ok (.goto 5, 3) := by decide +kernel
theorem d_Mo_findLengths_258 : decode b_Mo_findLengths 258 = .ok (.iload 4, 2) := by decide +kernel
theorem d_Mo_findLengths_260 : decode b_Mo_findLengths 260 = .ok (.iastore, 1) := by decide +kernel
theorem d_Mo_findLengths_261 : decode b_Mo_findLengths 261 = .ok (.iinc 3 1, 3) := by decide +kernel
theorem d_Mo_findLengths_264 : decode b_Mo_findLengths 264 = .ok (.goto (-75), 3) := by decide +kernel
theorem d_Mo_findLengths_267 : decode b_Mo_findLengths 267 = .ok (.return_, 1) := by decide +kernel
theorem d_Mo_findCodes_0 : decode b_Mo_findCodes 0 = .ok (.iconst 0, 1) := by decide +kernel
theorem d_Mo_findCodes_1 : decode b_Mo_findCodes 1 = .ok (.istore_n 1, 1) := by decide +kernel
theorem d_Mo_findCodes_2 : decode b_Mo_findCodes 2 = .ok (.iconst 0, 1) := by decide +kernel
theorem d_Mo_findCodes_3 : decode b_Mo_findCodes 3 = .ok (.istore_n 2, 1) := by decide +kernel
theorem d_Mo_findCodes_4 : decode b_Mo_findCodes 4 = .ok (.iconst 1, 1) := by decide +kernel
theorem d_Mo_findCodes_5 : decode b_Mo_findCodes 5 = .ok (.istore_n 3, 1) := by decide +kernel
theorem d_Mo_findCodes_6 : decode b_Mo_findCodes 6 = .ok (.iconst 1, 1) := by decide +kernel
theorem d_Mo_findCodes_7 : decode b_Mo_findCodes 7 = .ok (.istore 4, 2) := by decide +kernel
theorem d_Mo_findCodes_9 : decode b_Mo_findCodes 9 = .ok (.iload 4, 2) := by decide +kernel
theorem d_Mo_findCodes_11 : decode b_Mo_findCodes 11 = .ok (.bipush 16, 2) := by decide +kernel
theorem d_Mo_findCodes_13 : decode b_Mo_findCodes 13 = .ok (.if_icmp .ge 88, 3) := by decide +kernel
theorem d_Mo_findCodes_16 : decode b_Mo_findCodes 16 = .ok (.iconst 0, 1) := by decide +kernel
theorem d_Mo_findCodes_17 : decode b_Mo_findCodes 17 = .ok (.istore 5, 2) := by decide +kernel
theorem d_Mo_findCodes_19 : decode b_Mo_findCodes 19 = .ok (.iload 5, 2) := by decide +kernel
theorem d_Mo_findCodes_21 : decode b_Mo_findCodes 21 = .ok (.aload_n 0, 1) := by decide +kernel
theorem d_Mo_findCodes_22 : decode b_Mo_findCodes 22 = .ok (.getfield 108, 3) := by decide +kernel
theorem d_Mo_findCodes_25 : decode b_Mo_findCodes 25 = .ok (.if_icmp .ge 70, 3) := by decide +kernel
theorem d_Mo_findCodes_28 : decode b_Mo_findCodes 28 = .ok (.aload_n 0, 1) := by decide +kernel
theorem d_Mo_findCodes_29 : decode b_Mo_findCodes 29 = .ok (.getfield 48, 3) := by decide +kernel
theorem d_Mo_findCodes_32 : decode b_Mo_findCodes 32 = .ok (.iload 5, 2) := by decide +kernel
theorem d_Mo_findCodes_34 : decode b_Mo_findCodes 34 = .ok (.iaload, 1) := by decide +kernel
theorem d_Mo_findCodes_35 : decode b_Mo_findCodes 35 = .ok (.iload 4, 2) := by decide +kernel
theorem d_Mo_findCodes_37 : decode b_Mo_findCodes 37 = .ok (.if_icmp .ne 52, 3) := by decide +kernel
theorem d_Mo_findCodes_40 : decode b_Mo_findCodes 40 = .ok (.iload_n 3, 1) := by decide +kernel
theorem d_Mo_findCodes_41 : decode b_Mo_findCodes 41 = .ok (.ifCond .eq 7, 3) := by decide +kernel
theorem d_Mo_findCodes_44 : decode b_Mo_findCodes 44 = .ok (.iconst 0, 1) := by decide +kernel
theorem d_Mo_findCodes_45 : decode b_Mo_findCodes 45 = .ok (.goto 6, 3) := by decide +kernel
theorem d_Mo_findCodes_48 : decode b_Mo_findCodes 48 = .ok (.iload_n 1, 1) := by decide +kernel
theorem d_Mo_findCodes_49 : decode b_Mo_findCodes 49 = .ok (.iconst 1, 1) := by decide +kernel
theorem d_Mo_findCodes_50 : decode b_Mo_findCodes 50 = .ok (.iadd, 1) := by decide +kernel
theorem d_Mo_findCodes_51 : decode b_Mo_findCodes 51 = .ok (.istore_n 1, 1) := by decide +kernel
theorem d_Mo_findCodes_52 : decode b_Mo_findCodes 52 = .ok (.iload_n 2, 1) := by decide +kernel
theorem d_Mo_findCodes_53 : decode b_Mo_findCodes 53 = .ok (.istore 6, 2) := by decide +kernel
theorem d_Mo_findCodes_55 : decode b_Mo_findCodes 55 = .ok (.iload 6, 2) := by decide +kernel
theorem d_Mo_findCodes_57 : decode b_Mo_findCodes 57 = .ok (.iload 4, 2) := by decide +kernel
theorem d_Mo_findCodes_59 : decode b_Mo_findCodes 59 = .ok (.if_icmp .ge 17, 3) := by decide +kernel
theorem d_Mo_findCodes_62 : decode b_Mo_findCodes 62 = .ok (.iload_n 3, 1) := by decide +kernel
theorem d_Mo_findCodes_63 : decode b_Mo_findCodes 63 = .ok (.ifCond .ne 13, 3) := by decide +kernel
theorem d_Mo_findCodes_66 : decode b_Mo_findCodes 66 = .ok (.iconst 2, 1) := by decide +kernel
theorem d_Mo_findCodes_67 : decode b_Mo_findCodes 67 = .ok (.iload_n 1, 1) := by decide +kernel
theorem d_Mo_findCodes_68 : decode b_Mo_findCodes 68 = .ok (.imul, 1) := by decide +kernel
theorem d_Mo_findCodes_69 : decode b_Mo_findCodes 69 = .ok (.istore_n 1, 1) := by decide +kernel
theorem d_Mo_findCodes_70 : decode b_Mo_findCodes 70 = .ok (.iinc 6 1, 3) := by decide +kernel
theorem d_Mo_findCodes_73 : decode b_Mo_findCodes 73 = .ok (.goto (-18), 3) := by decide +kernel
theorem d_Mo_findCodes_76 : decode b_Mo_findCodes 76 = .ok (.iload 4, 2) := by decide +kernel
theorem d_Mo_findCodes_78 : decode b_Mo_findCodes 78 = .ok (.istore_n 2, 1) := by decide +kernel
theorem d_Mo_findCodes_79 : decode b_Mo_findCodes 79 = .ok (.iconst 0, 1) := by decide +kernel
theorem d_Mo_findCodes_80 : decode b_Mo_findCodes 80 = .ok (.istore_n 3, 1) := by decide +kernel
theorem d_Mo_findCodes_81 : decode b_Mo_findCodes 81 = .ok (.aload_n 0, 1) := by decide +kernel
theorem d_Mo_findCodes_82 : decode b_Mo_findCodes 82 = .ok (.getfield 51, 3) := by decide +kernel
theorem d_Mo_findCodes_85 : decode b_Mo_findCodes 85 = .ok (.iload 5, 2) := by decide +kernel
theorem d_Mo_findCodes_87 : decode b_Mo_findCodes 87 = .ok (.iload_n 1, 1) := by decide +kernel
theorem d_Mo_findCodes_88 : decode b_Mo_findCodes 88 = .ok (.iastore, 1) := by decide +kernel
theorem d_Mo_findCodes_89 : decode b_Mo_findCodes 89 = .ok (.iinc 5 1, 3) := by decide +kernel
theorem d_Mo_findCodes_92 : decode b_Mo_findCodes 92 = .ok (.goto (-73), 3) := by decide +kernel
theorem d_Mo_findCodes_95 : decode b_Mo_findCodes 95 = .ok (.iinc 4 1, 3) := by decide +kernel
theorem d_Mo_findCodes_98 : decode b_Mo_findCodes 98 = .ok (.goto (-89), 3) := by decide +kernel
theorem d_Mo_findCodes_101 : decode b_Mo_findCodes 101 = .ok (.return_, 1) := by decide +kernel
theorem d_Mo_bit_0 : decode b_Mo_bit 0 = .ok (.aload_n 0, 1) := by decide +kernel
theorem d_Mo_bit_1 : decode b_Mo_bit 1 = .ok (.getfield 146, 3) := by decide +kernel
theorem d_Mo_bit_4 : decode b_Mo_bit 4 = .ok (.ifCond .eq 63, 3) := by decide +kernel
theorem d_Mo_bit_7 : decode b_Mo_bit 7 = .ok (.aload_n 0, 1) := by decide +kernel
theorem d_Mo_bit_8 : decode b_Mo_bit 8 = .ok (.getfield 150, 3) := by decide +kernel
theorem d_Mo_bit_11 : decode b_Mo_bit 11 = .ok (.bipush 8, 2) := by decide +kernel
theorem d_Mo_bit_13 : decode b_Mo_bit 13 = .ok (.irem, 1) := by decide +kernel
theorem d_Mo_bit_14 : decode b_Mo_bit 14 = .ok (.ifCond .ne 16, 3) := by decide +kernel
theorem d_Mo_bit_17 : decode b_Mo_bit 17 = .ok (.aload_n 0, 1) := by decide +kernel
theorem d_Mo_bit_18 : decode b_Mo_bit 18 = .ok (.getfield 42, 3) := by decide +kernel
theorem d_Mo_bit_21 : decode b_Mo_bit 21 = .ok (.aload_n 0, 1) := by decide +kernel
theorem d_Mo_bit_22 : decode b_Mo_bit 22 = .ok (.getfield 150, 3) := by decide +kernel
theorem d_Mo_bit_25 : decode b_Mo_bit 25 = .ok (.bipush 8, 2) := by decide +kernel
theorem d_Mo_bit_27 : decode b_Mo_bit 27 = .ok (.idiv, 1) := by decide +kernel
theorem d_Mo_bit_28 : decode b_Mo_bit 28 = .ok (.iconst 0, 1) := by decide +kernel
theorem d_Mo_bit_29 : decode b_Mo_bit 29 = .ok (.iastore, 1) := by decide +kernel
theorem d_Mo_bit_30 : decode b_Mo_bit 30 = .ok (.aload_n 0, 1) := by decide +kernel
theorem d_Mo_bit_31 : decode b_Mo_bit 31 = .ok (.getfield 42, 3) := by decide +kernel
theorem d_Mo_bit_34 : decode b_Mo_bit 34 = .ok (.aload_n 0, 1) := by decide +kernel
theorem d_Mo_bit_35 : decode b_Mo_bit 35 = .ok (.getfield 150, 3) := by decide +kernel
theorem d_Mo_bit_38 : decode b_Mo_bit 38 = .ok (.bipush 8, 2) := by decide +kernel
theorem d_Mo_bit_40 : decode b_Mo_bit 40 = .ok (.idiv, 1) := by decide +kernel
theorem d_Mo_bit_41 : decode b_Mo_bit 41 = .ok (.aload_n 0, 1) := by decide +kernel
theorem d_Mo_bit_42 : decode b_Mo_bit 42 = .ok (.getfield 42, 3) := by decide +kernel
theorem d_Mo_bit_45 : decode b_Mo_bit 45 = .ok (.aload_n 0, 1) := by decide +kernel
theorem d_Mo_bit_46 : decode b_Mo_bit 46 = .ok (.getfield 150, 3) := by decide +kernel
theorem d_Mo_bit_49 : decode b_Mo_bit 49 = .ok (.bipush 8, 2) := by decide +kernel
theorem d_Mo_bit_51 : decode b_Mo_bit 51 = .ok (.idiv, 1) := by decide +kernel
theorem d_Mo_bit_52 : decode b_Mo_bit 52 = .ok (.iaload, 1) := by decide +kernel
theorem d_Mo_bit_53 : decode b_Mo_bit 53 = .ok (.iload_n 1, 1) := by decide +kernel
theorem d_Mo_bit_54 : decode b_Mo_bit 54 = .ok (.bipush 7, 2) := by decide +kernel
theorem d_Mo_bit_56 : decode b_Mo_bit 56 = .ok (.aload_n 0, 1) := by decide +kernel
theorem d_Mo_bit_57 : decode b_Mo_bit 57 = .ok (.getfield 150, 3) := by decide +kernel
theorem d_Mo_bit_60 : decode b_Mo_bit 60 = .ok (.bipush 8, 2) := by decide +kernel
theorem d_Mo_bit_62 : decode b_Mo_bit 62 = .ok (.irem, 1) := by decide +kernel
theorem d_Mo_bit_63 : decode b_Mo_bit 63 = .ok (.isub, 1) := by decide +kernel
theorem d_Mo_bit_64 : decode b_Mo_bit 64 = .ok (.ishl, 1) := by decide +kernel
theorem d_Mo_bit_65 : decode b_Mo_bit 65 = .ok (.ior, 1) := by decide +kernel
theorem d_Mo_bit_66 : decode b_Mo_bit 66 = .ok (.iastore, 1) := by decide +kernel
theorem d_Mo_bit_67 : decode b_Mo_bit 67 = .ok (.aload_n 0, 1) := by decide +kernel
theorem d_Mo_bit_68 : decode b_Mo_bit 68 = .ok (.dup, 1) := by decide +kernel
theorem d_Mo_bit_69 : decode b_Mo_bit 69 = .ok (.getfield 150, 3) := by decide +kernel
theorem d_Mo_bit_72 : decode b_Mo_bit 72 = .ok (.iconst 1, 1) := by decide +kernel
theorem d_Mo_bit_73 : decode b_Mo_bit 73 = .ok (.iadd, 1) := by decide +kernel
theorem d_Mo_bit_74 : decode b_Mo_bit 74 = .ok (.putfield 150, 3) := by decide +kernel
theorem d_Mo_bit_77 : decode b_Mo_bit 77 = .ok (.return_, 1) := by decide +kernel
theorem d_Mo_low_0 : decode b_Mo_low 0 = .ok (.iload_n 2, 1) := by decide +kernel
theorem d_Mo_low_1 : decode b_Mo_low 1 = .ok (.iconst 1, 1) := by decide +kernel
theorem d_Mo_low_2 : decode b_Mo_low 2 = .ok (.isub, 1) := by decide +kernel
theorem d_Mo_low_3 : decode b_Mo_low 3 = .ok (.istore_n 3, 1) := by decide +kernel
theorem d_Mo_low_4 : decode b_Mo_low 4 = .ok (.iload_n 3, 1) := by decide +kernel
theorem d_Mo_low_5 : decode b_Mo_low 5 = .ok (.ifCond .lt 18, 3) := by decide +kernel
theorem d_Mo_low_8 : decode b_Mo_low 8 = .ok (.aload_n 0, 1) := by decide +kernel
theorem d_Mo_low_9 : decode b_Mo_low 9 = .ok (.iload_n 1, 1) := by decide +kernel
theorem d_Mo_low_10 : decode b_Mo_low 10 = .ok (.iload_n 3, 1) := by decide +kernel
theorem d_Mo_low_11 : decode b_Mo_low 11 = .ok (.ishr, 1) := by decide +kernel
theorem d_Mo_low_12 : decode b_Mo_low 12 = .ok (.iconst 1, 1) := by decide +kernel
theorem d_Mo_low_13 : decode b_Mo_low 13 = .ok (.iand, 1) := by decide +kernel
theorem d_Mo_low_14 : decode b_Mo_low 14 = .ok (.invokevirtual 153, 3) := by decide +kernel
theorem d_Mo_low_17 : decode b_Mo_low 17 = .ok (.iinc 3 (-1), 3) := by decide +kernel
theorem d_Mo_low_20 : decode b_Mo_low 20 = .ok (.goto (-16), 3) := by decide +kernel
theorem d_Mo_low_23 : decode b_Mo_low 23 = .ok (.return_, 1) := by decide +kernel
theorem d_Mo_number_0 : decode b_Mo_number 0 = .ok (.iconst 0, 1) := by decide +kernel
theorem d_Mo_number_1 : decode b_Mo_number 1 = .ok (.istore_n 2, 1) := by decide +kernel
theorem d_Mo_number_2 : decode b_Mo_number 2 = .ok (.iload_n 1, 1) := by decide +kernel
theorem d_Mo_number_3 : decode b_Mo_number 3 = .ok (.iconst 1, 1) := by decide +kernel
theorem d_Mo_number_4 : decode b_Mo_number 4 = .ok (.iadd, 1) := by decide +kernel
theorem d_Mo_number_5 : decode b_Mo_number 5 = .ok (.iload_n 2, 1) := by decide +kernel
theorem d_Mo_number_6 : decode b_Mo_number 6 = .ok (.iconst 1, 1) := by decide +kernel
theorem d_Mo_number_7 : decode b_Mo_number 7 = .ok (.iadd, 1) := by decide +kernel
theorem d_Mo_number_8 : decode b_Mo_number 8 = .ok (.ishr, 1) := by decide +kernel
theorem d_Mo_number_9 : decode b_Mo_number 9 = .ok (.ifCond .le 9, 3) := by decide +kernel
theorem d_Mo_number_12 : decode b_Mo_number 12 = .ok (.iinc 2 1, 3) := by decide +kernel
theorem d_Mo_number_15 : decode b_Mo_number 15 = .ok (.goto (-13), 3) := by decide +kernel
theorem d_Mo_number_18 : decode b_Mo_number 18 = .ok (.aload_n 0, 1) := by decide +kernel
theorem d_Mo_number_19 : decode b_Mo_number 19 = .ok (.iconst 0, 1) := by decide +kernel
theorem d_Mo_number_20 : decode b_Mo_number 20 = .ok (.iload_n 2, 1) := by decide +kernel
theorem d_Mo_number_21 : decode b_Mo_number 21 = .ok (.invokevirtual 156, 3) := by decide +kernel
theorem d_Mo_number_24 : decode b_Mo_number 24 = .ok (.aload_n 0, 1) := by decide +kernel
theorem d_Mo_number_25 : decode b_Mo_number 25 = .ok (.iconst 1, 1) := by decide +kernel
theorem d_Mo_number_26 : decode b_Mo_number 26 = .ok (.invokevirtual 153, 3) := by decide +kernel
theorem d_Mo_number_29 : decode b_Mo_number 29 = .ok (.aload_n 0, 1) := by decide +kernel
theorem d_Mo_number_30 : decode b_Mo_number 30 = .ok (.iload_n 1, 1) := by decide +kernel
theorem d_Mo_number_31 : decode b_Mo_number 31 = .ok (.iconst 1, 1) := by decide +kernel
theorem d_Mo_number_32 : decode b_Mo_number 32 = .ok (.iadd, 1) := by decide +kernel
theorem d_Mo_number_33 : decode b_Mo_number 33 = .ok (.iload_n 2, 1) := by decide +kernel
theorem d_Mo_number_34 : decode b_Mo_number 34 = .ok (.invokevirtual 156, 3) := by decide +kernel
theorem d_Mo_number_37 : decode b_Mo_number 37 = .ok (.return_, 1) := by decide +kernel
theorem d_Mo_signed_0 : decode b_Mo_signed 0 = .ok (.aload_n 0, 1) := by decide +kernel
theorem d_Mo_signed_1 : decode b_Mo_signed 1 = .ok (.iload_n 1, 1) := by decide +kernel
theorem d_Mo_signed_2 : decode b_Mo_signed 2 = .ok (.ifCond .lt 9, 3) := by decide +kernel
theorem d_Mo_signed_5 : decode b_Mo_signed 5 = .ok (.iconst 2, 1) := by decide +kernel
theorem d_Mo_signed_6 : decode b_Mo_signed 6 = .ok (.iload_n 1, 1) := by decide +kernel
theorem d_Mo_signed_7 : decode b_Mo_signed 7 = .ok (.imul, 1) := by decide +kernel
theorem d_Mo_signed_8 : decode b_Mo_signed 8 = .ok (.goto 9, 3) := by decide +kernel
theorem d_Mo_signed_11 : decode b_Mo_signed 11 = .ok (.bipush (-2), 2) := by decide +kernel
theorem d_Mo_signed_13 : decode b_Mo_signed 13 = .ok (.iload_n 1, 1) := by decide +kernel
theorem d_Mo_signed_14 : decode b_Mo_signed 14 = .ok (.imul, 1) := by decide +kernel
theorem d_Mo_signed_15 : decode b_Mo_signed 15 = .ok (.iconst 1, 1) := by decide +kernel
theorem d_Mo_signed_16 : decode b_Mo_signed 16 = .ok (.isub, 1) := by decide +kernel
theorem d_Mo_signed_17 : decode b_Mo_signed 17 = .ok (.invokevirtual 160, 3) := by decide +kernel
theorem d_Mo_signed_20 : decode b_Mo_signed 20 = .ok (.return_, 1) := by decide +kernel
theorem d_Mo_beginRow_0 : decode b_Mo_beginRow 0 = .ok (.iconst 0, 1) := by decide +kernel
theorem d_Mo_beginRow_1 : decode b_Mo_beginRow 1 = .ok (.istore_n 1, 1) := by decide +kernel
theorem d_Mo_beginRow_2 : decode b_Mo_beginRow 2 = .ok (.iload_n 1, 1) := by decide +kernel
theorem d_Mo_beginRow_3 : decode b_Mo_beginRow 3 = .ok (.bipush 16, 2) := by decide +kernel
theorem d_Mo_beginRow_5 : decode b_Mo_beginRow 5 = .ok (.if_icmp .ge 16, 3) := by decide +kernel
theorem d_Mo_beginRow_8 : decode b_Mo_beginRow 8 = .ok (.aload_n 0, 1) := by decide +kernel
theorem d_Mo_beginRow_9 : decode b_Mo_beginRow 9 = .ok (.getfield 63, 3) := by decide +kernel
theorem d_Mo_beginRow_12 : decode b_Mo_beginRow 12 = .ok (.iload_n 1, 1) := by decide +kernel
theorem d_Mo_beginRow_13 : decode b_Mo_beginRow 13 = .ok (.iload_n 1, 1) := by decide +kernel
theorem d_Mo_beginRow_14 : decode b_Mo_beginRow 14 = .ok (.iastore, 1) := by decide +kernel
theorem d_Mo_beginRow_15 : decode b_Mo_beginRow 15 = .ok (.iinc 1 1, 3) := by decide +kernel
theorem d_Mo_beginRow_18 : decode b_Mo_beginRow 18 = .ok (.goto (-16), 3) := by decide +kernel
theorem d_Mo_beginRow_21 : decode b_Mo_beginRow 21 = .ok (.return_, 1) := by decide +kernel
theorem d_Mo_toFront_0 : decode b_Mo_toFront 0 = .ok (.aload_n 0, 1) := by decide +kernel
theorem d_Mo_toFront_1 : decode b_Mo_toFront 1 = .ok (.getfield 63, 3) := by decide +kernel
theorem d_Mo_toFront_4 : decode b_Mo_toFront 4 = .ok (.iload_n 1, 1) := by decide +kernel
theorem d_Mo_toFront_5 : decode b_Mo_toFront 5 = .ok (.iaload, 1) := by decide +kernel
theorem d_Mo_toFront_6 : decode b_Mo_toFront 6 = .ok (.istore_n 2, 1) := by decide +kernel
theorem d_Mo_toFront_7 : decode b_Mo_toFront 7 = .ok (.iload_n 1, 1) := by decide +kernel
theorem d_Mo_toFront_8 : decode b_Mo_toFront 8 = .ok (.istore_n 3, 1) := by decide +kernel
theorem d_Mo_toFront_9 : decode b_Mo_toFront 9 = .ok (.iload_n 3, 1) := by decide +kernel
theorem d_Mo_toFront_10 : decode b_Mo_toFront 10 = .ok (.ifCond .le 23, 3) := by decide +kernel
theorem d_Mo_toFront_13 : decode b_Mo_toFront 13 = .ok (.aload_n 0, 1) := by decide +kernel
theorem d_Mo_toFront_14 : decode b_Mo_toFront 14 = .ok (.getfield 63, 3) := by decide +kernel
theorem d_Mo_toFront_17 : decode b_Mo_toFront 17 = .ok (.iload_n 3, 1) := by decide +kernel
theorem d_Mo_toFront_18 : decode b_Mo_toFront 18 = .ok (.aload_n 0, 1) := by decide +kernel
theorem d_Mo_toFront_19 : decode b_Mo_toFront 19 = .ok (.getfield 63, 3) := by decide +kernel
theorem d_Mo_toFront_22 : decode b_Mo_toFront 22 = .ok (.iload_n 3, 1) := by decide +kernel
theorem d_Mo_toFront_23 : decode b_Mo_toFront 23 = .ok (.iconst 1, 1) := by decide +kernel
theorem d_Mo_toFront_24 : decode b_Mo_toFront 24 = .ok (.isub, 1) := by decide +kernel
theorem d_Mo_toFront_25 : decode b_Mo_toFront 25 = .ok (.iaload, 1) := by decide +kernel
theorem d_Mo_toFront_26 : decode b_Mo_toFront 26 = .ok (.iastore, 1) := by decide +kernel
theorem d_Mo_toFront_27 : decode b_Mo_toFront 27 = .ok (.iinc 3 (-1), 3) := by decide +kernel
theorem d_Mo_toFront_30 : decode b_Mo_toFront 30 = .ok (.goto (-21), 3) := by decide +kernel
theorem d_Mo_toFront_33 : decode b_Mo_toFront 33 = .ok (.aload_n 0, 1) := by decide +kernel
theorem d_Mo_toFront_34 : decode b_Mo_toFront 34 = .ok (.getfield 63, 3) := by decide +kernel
theorem d_Mo_toFront_37 : decode b_Mo_toFront 37 = .ok (.iconst 0, 1) := by decide +kernel
theorem d_Mo_toFront_38 : decode b_Mo_toFront 38 = .ok (.iload_n 2, 1) := by decide +kernel
theorem d_Mo_toFront_39 : decode b_Mo_toFront 39 = .ok (.iastore, 1) := by decide +kernel
theorem d_Mo_toFront_40 : decode b_Mo_toFront 40 = .ok (.return_, 1) := by decide +kernel
theorem d_Mo_name_0 : decode b_Mo_name 0 = .ok (.aload_n 0, 1) := by decide +kernel
theorem d_Mo_name_1 : decode b_Mo_name 1 = .ok (.getfield 98, 3) := by decide +kernel
theorem d_Mo_name_4 : decode b_Mo_name 4 = .ok (.ifCond .ne 20, 3) := by decide +kernel
theorem d_Mo_name_7 : decode b_Mo_name 7 = .ok (.aload_n 0, 1) := by decide +kernel
theorem d_Mo_name_8 : decode b_Mo_name 8 = .ok (.aload_n 0, 1) := by decide +kernel
theorem d_Mo_name_9 : decode b_Mo_name 9 = .ok (.getfield 51, 3) := by decide +kernel
theorem d_Mo_name_12 : decode b_Mo_name 12 = .ok (.iload_n 1, 1) := by decide +kernel
theorem d_Mo_name_13 : decode b_Mo_name 13 = .ok (.iaload, 1) := by decide +kernel
theorem d_Mo_name_14 : decode b_Mo_name 14 = .ok (.aload_n 0, 1) := by decide +kernel
theorem d_Mo_name_15 : decode b_Mo_name 15 = .ok (.getfield 48, 3) := by decide +kernel
theorem d_Mo_name_18 : decode b_Mo_name 18 = .ok (.iload_n 1, 1) := by decide +kernel
theorem d_Mo_name_19 : decode b_Mo_name 19 = .ok (.iaload, 1) := by decide +kernel
theorem d_Mo_name_20 : decode b_Mo_name 20 = .ok (.invokevirtual 156, 3) := by decide +kernel
theorem d_Mo_name_23 : decode b_Mo_name 23 = .ok (.return_, 1) := by decide +kernel
theorem d_Mo_name_24 : decode b_Mo_name 24 = .ok (.iconst 0, 1) := by decide +kernel
theorem d_Mo_name_25 : decode b_Mo_name 25 = .ok (.istore_n 2, 1) := by decide +kernel
theorem d_Mo_name_26 : decode b_Mo_name 26 = .ok (.aload_n 0, 1) := by decide +kernel
theorem d_Mo_name_27 : decode b_Mo_name 27 = .ok (.getfield 63, 3) := by decide +kernel
theorem d_Mo_name_30 : decode b_Mo_name 30 = .ok (.iload_n 2, 1) := by decide +kernel
theorem d_Mo_name_31 : decode b_Mo_name 31 = .ok (.iaload, 1) := by decide +kernel
theorem d_Mo_name_32 : decode b_Mo_name 32 = .ok (.iload_n 1, 1) := by decide +kernel
theorem d_Mo_name_33 : decode b_Mo_name 33 = .ok (.if_icmp .eq 9, 3) := by decide +kernel
theorem d_Mo_name_36 : decode b_Mo_name 36 = .ok (.iinc 2 1, 3) := by decide +kernel
theorem d_Mo_name_39 : decode b_Mo_name 39 = .ok (.goto (-13), 3) := by decide +kernel
theorem d_Mo_name_42 : decode b_Mo_name 42 = .ok (.aload_n 0, 1) := by decide +kernel
theorem d_Mo_name_43 : decode b_Mo_name 43 = .ok (.iload_n 2, 1) := by decide +kernel
theorem d_Mo_name_44 : decode b_Mo_name 44 = .ok (.invokevirtual 160, 3) := by decide +kernel
theorem d_Mo_name_47 : decode b_Mo_name 47 = .ok (.aload_n 0, 1) := by decide +kernel
theorem d_Mo_name_48 : decode b_Mo_name 48 = .ok (.iload_n 2, 1) := by decide +kernel
theorem d_Mo_name_49 : decode b_Mo_name 49 = .ok (.invokevirtual 163, 3) := by decide +kernel
theorem d_Mo_name_52 : decode b_Mo_name 52 = .ok (.return_, 1) := by decide +kernel
theorem d_Mo_runs_0 : decode b_Mo_runs 0 = .ok (.aload_n 0, 1) := by decide +kernel
theorem d_Mo_runs_1 : decode b_Mo_runs 1 = .ok (.getfield 20, 3) := by decide +kernel
theorem d_Mo_runs_4 : decode b_Mo_runs 4 = .ok (.iload_n 1, 1) := by decide +kernel
theorem d_Mo_runs_5 : decode b_Mo_runs 5 = .ok (.iaload, 1) := by decide +kernel
theorem d_Mo_runs_6 : decode b_Mo_runs 6 = .ok (.istore_n 2, 1) := by decide +kernel
theorem d_Mo_runs_7 : decode b_Mo_runs 7 = .ok (.iconst 0, 1) := by decide +kernel
theorem d_Mo_runs_8 : decode b_Mo_runs 8 = .ok (.istore_n 3, 1) := by decide +kernel
theorem d_Mo_runs_9 : decode b_Mo_runs 9 = .ok (.iconst 0, 1) := by decide +kernel
theorem d_Mo_runs_10 : decode b_Mo_runs 10 = .ok (.istore 4, 2) := by decide +kernel
theorem d_Mo_runs_12 : decode b_Mo_runs 12 = .ok (.iconst 0, 1) := by decide +kernel
theorem d_Mo_runs_13 : decode b_Mo_runs 13 = .ok (.istore 5, 2) := by decide +kernel
theorem d_Mo_runs_15 : decode b_Mo_runs 15 = .ok (.iload 5, 2) := by decide +kernel
theorem d_Mo_runs_17 : decode b_Mo_runs 17 = .ok (.aload_n 0, 1) := by decide +kernel
theorem d_Mo_runs_18 : decode b_Mo_runs 18 = .ok (.getfield 13, 3) := by decide +kernel
theorem d_Mo_runs_21 : decode b_Mo_runs 21 = .ok (.iload_n 2, 1) := by decide +kernel
theorem d_Mo_runs_22 : decode b_Mo_runs 22 = .ok (.iaload, 1) := by decide +kernel
theorem d_Mo_runs_23 : decode b_Mo_runs 23 = .ok (.if_icmp .ge 79, 3) := by decide +kernel
theorem d_Mo_runs_26 : decode b_Mo_runs 26 = .ok (.iconst 0, 1) := by decide +kernel
theorem d_Mo_runs_27 : decode b_Mo_runs 27 = .ok (.istore 6, 2) := by decide +kernel
theorem d_Mo_runs_29 : decode b_Mo_runs 29 = .ok (.iload 6, 2) := by decide +kernel
theorem d_Mo_runs_31 : decode b_Mo_runs 31 = .ok (.aload_n 0, 1) := by decide +kernel
theorem d_Mo_runs_32 : decode b_Mo_runs 32 = .ok (.getfield 7, 3) := by decide +kernel
theorem d_Mo_runs_35 : decode b_Mo_runs 35 = .ok (.iload_n 2, 1) := by decide +kernel
theorem d_Mo_runs_36 : decode b_Mo_runs 36 = .ok (.iaload, 1) := by decide +kernel
theorem d_Mo_runs_37 : decode b_Mo_runs 37 = .ok (.if_icmp .ge 59, 3) := by decide +kernel
theorem d_Mo_runs_40 : decode b_Mo_runs 40 = .ok (.aload_n 0, 1) := by decide +kernel
theorem d_Mo_runs_41 : decode b_Mo_runs 41 = .ok (.getfield 29, 3) := by decide +kernel
theorem d_Mo_runs_44 : decode b_Mo_runs 44 = .ok (.iload_n 1, 1) := by decide +kernel
theorem d_Mo_runs_45 : decode b_Mo_runs 45 = .ok (.laload, 1) := by decide +kernel
theorem d_Mo_runs_46 : decode b_Mo_runs 46 = .ok (.bipush 8, 2) := by decide +kernel
theorem d_Mo_runs_48 : decode b_Mo_runs 48 = .ok (.iload 5, 2) := by decide +kernel
theorem d_Mo_runs_50 : decode b_Mo_runs 50 = .ok (.imul, 1) := by decide +kernel
theorem d_Mo_runs_51 : decode b_Mo_runs 51 = .ok (.iload 6, 2) := by decide +kernel
theorem d_Mo_runs_53 : decode b_Mo_runs 53 = .ok (.iadd, 1) := by decide +kernel
theorem d_Mo_runs_54 : decode b_Mo_runs 54 = .ok (.lshr, 1) := by decide +kernel
theorem d_Mo_runs_55 : decode b_Mo_runs 55 = .ok (.lconst 1, 1) := by decide +kernel
theorem d_Mo_runs_56 : decode b_Mo_runs 56 = .ok (.land, 1) := by decide +kernel
theorem d_Mo_runs_57 : decode b_Mo_runs 57 = .ok (.lconst 1, 1) := by decide +kernel
theorem d_Mo_runs_58 : decode b_Mo_runs 58 = .ok (.lcmp, 1) := by decide +kernel
theorem d_Mo_runs_59 : decode b_Mo_runs 59 = .ok (.ifCond .ne 7, 3) := by decide +kernel
theorem d_Mo_runs_62 : decode b_Mo_runs 62 = .ok (.iconst 1, 1) := by decide +kernel
theorem d_Mo_runs_63 : decode b_Mo_runs 63 = .ok (.goto 4, 3) := by decide +kernel
theorem d_Mo_runs_66 : decode b_Mo_runs 66 = .ok (.iconst 0, 1) := by decide +kernel
theorem d_Mo_runs_67 : decode b_Mo_runs 67 = .ok (.istore 7, 2) := by decide +kernel
theorem d_Mo_runs_69 : decode b_Mo_runs 69 = .ok (.iload 7, 2) := by decide +kernel
theorem d_Mo_runs_71 : decode b_Mo_runs 71 = .ok (.iload_n 3, 1) := by decide +kernel
theorem d_Mo_runs_72 : decode b_Mo_runs 72 = .ok (.if_icmp .eq 15, 3) := by decide +kernel
theorem d_Mo_runs_75 : decode b_Mo_runs 75 = .ok (.aload_n 0, 1) := by decide +kernel
theorem d_Mo_runs_76 : decode b_Mo_runs 76 = .ok (.iload 4, 2) := by decide +kernel
theorem d_Mo_runs_78 : decode b_Mo_runs 78 = .ok (.invokevirtual 160, 3) := by decide +kernel
theorem d_Mo_runs_81 : decode b_Mo_runs 81 = .ok (.iload 7, 2) := by decide +kernel
theorem d_Mo_runs_83 : decode b_Mo_runs 83 = .ok (.istore_n 3, 1) := by decide +kernel
theorem d_Mo_runs_84 : decode b_Mo_runs 84 = .ok (.iconst 0, 1) := by decide +kernel
theorem d_Mo_runs_85 : decode b_Mo_runs 85 = .ok (.istore 4, 2) := by decide +kernel
theorem d_Mo_runs_87 : decode b_Mo_runs 87 = .ok (.iinc 4 1, 3) := by decide +kernel
theorem d_Mo_runs_90 : decode b_Mo_runs 90 = .ok (.iinc 6 1, 3) := by decide +kernel
theorem d_Mo_runs_93 : decode b_Mo_runs 93 = .ok (.goto (-64), 3) := by decide +kernel
theorem d_Mo_runs_96 : decode b_Mo_runs 96 = .ok (.iinc 5 1, 3) := by decide +kernel
theorem d_Mo_runs_99 : decode b_Mo_runs 99 = .ok (.goto (-84), 3) := by decide +kernel
theorem d_Mo_runs_102 : decode b_Mo_runs 102 = .ok (.aload_n 0, 1) := by decide +kernel
theorem d_Mo_runs_103 : decode b_Mo_runs 103 = .ok (.iload 4, 2) := by decide +kernel
theorem d_Mo_runs_105 : decode b_Mo_runs 105 = .ok (.invokevirtual 160, 3) := by decide +kernel
theorem d_Mo_runs_108 : decode b_Mo_runs 108 = .ok (.return_, 1) := by decide +kernel
theorem d_Mo_tellAll_0 : decode b_Mo_tellAll 0 = .ok (.aload_n 0, 1) := by decide +kernel
theorem d_Mo_tellAll_1 : decode b_Mo_tellAll 1 = .ok (.iconst 0, 1) := by decide +kernel
theorem d_Mo_tellAll_2 : decode b_Mo_tellAll 2 = .ok (.putfield 150, 3) := by decide +kernel
theorem d_Mo_tellAll_5 : decode b_Mo_tellAll 5 = .ok (.aload_n 0, 1) := by decide +kernel
theorem d_Mo_tellAll_6 : decode b_Mo_tellAll 6 = .ok (.iload_n 1, 1) := by decide +kernel
theorem d_Mo_tellAll_7 : decode b_Mo_tellAll 7 = .ok (.putfield 146, 3) := by decide +kernel
theorem d_Mo_tellAll_10 : decode b_Mo_tellAll 10 = .ok (.aload_n 0, 1) := by decide +kernel
theorem d_Mo_tellAll_11 : decode b_Mo_tellAll 11 = .ok (.invokevirtual 136, 3) := by decide +kernel
theorem d_Mo_tellAll_14 : decode b_Mo_tellAll 14 = .ok (.aload_n 0, 1) := by decide +kernel
theorem d_Mo_tellAll_15 : decode b_Mo_tellAll 15 = .ok (.aload_n 0, 1) := by decide +kernel
theorem d_Mo_tellAll_16 : decode b_Mo_tellAll 16 = .ok (.getfield 116, 3) := by decide +kernel
theorem d_Mo_tellAll_19 : decode b_Mo_tellAll 19 = .ok (.invokevirtual 160, 3) := by decide +kernel
theorem d_Mo_tellAll_22 : decode b_Mo_tellAll 22 = .ok (.aload_n 0, 1) := by decide +kernel
theorem d_Mo_tellAll_23 : decode b_Mo_tellAll 23 = .ok (.aload_n 0, 1) := by decide +kernel
theorem d_Mo_tellAll_24 : decode b_Mo_tellAll 24 = .ok (.getfield 32, 3) := by decide +kernel
theorem d_Mo_tellAll_27 : decode b_Mo_tellAll 27 = .ok (.iconst 2, 1) := by decide +kernel
theorem d_Mo_tellAll_28 : decode b_Mo_tellAll 28 = .ok (.iaload, 1) := by decide +kernel
theorem d_Mo_tellAll_29 : decode b_Mo_tellAll 29 = .ok (.iconst 2, 1) := by decide +kernel
theorem d_Mo_tellAll_30 : decode b_Mo_tellAll 30 = .ok (.invokevirtual 156, 3) := by decide +kernel
theorem d_Mo_tellAll_33 : decode b_Mo_tellAll 33 = .ok (.aload_n 0, 1) := by decide +kernel
theorem d_Mo_tellAll_34 : decode b_Mo_tellAll 34 = .ok (.aload_n 0, 1) := by decide +kernel
theorem d_Mo_tellAll_35 : decode b_Mo_tellAll 35 = .ok (.getfield 32, 3) := by decide +kernel
theorem d_Mo_tellAll_38 : decode b_Mo_tellAll 38 = .ok (.iconst 1, 1) := by decide +kernel
theorem d_Mo_tellAll_39 : decode b_Mo_tellAll 39 = .ok (.iaload, 1) := by decide +kernel
theorem d_Mo_tellAll_40 : decode b_Mo_tellAll 40 = .ok (.invokevirtual 153, 3) := by decide +kernel
theorem d_Mo_tellAll_43 : decode b_Mo_tellAll 43 = .ok (.aload_n 0, 1) := by decide +kernel
theorem d_Mo_tellAll_44 : decode b_Mo_tellAll 44 = .ok (.aload_n 0, 1) := by decide +kernel
theorem d_Mo_tellAll_45 : decode b_Mo_tellAll 45 = .ok (.getfield 32, 3) := by decide +kernel
theorem d_Mo_tellAll_48 : decode b_Mo_tellAll 48 = .ok (.iconst 0, 1) := by decide +kernel
theorem d_Mo_tellAll_49 : decode b_Mo_tellAll 49 = .ok (.iaload, 1) := by decide +kernel
theorem d_Mo_tellAll_50 : decode b_Mo_tellAll 50 = .ok (.iconst 2, 1) := by decide +kernel
theorem d_Mo_tellAll_51 : decode b_Mo_tellAll 51 = .ok (.invokevirtual 156, 3) := by decide +kernel
theorem d_Mo_tellAll_54 : decode b_Mo_tellAll 54 = .ok (.aload_n 0, 1) := by decide +kernel
theorem d_Mo_tellAll_55 : decode b_Mo_tellAll 55 = .ok (.aload_n 0, 1) := by decide +kernel
theorem d_Mo_tellAll_56 : decode b_Mo_tellAll 56 = .ok (.getfield 32, 3) := by decide +kernel
theorem d_Mo_tellAll_59 : decode b_Mo_tellAll 59 = .ok (.iconst 3, 1) := by decide +kernel
theorem d_Mo_tellAll_60 : decode b_Mo_tellAll 60 = .ok (.iaload, 1) := by decide +kernel
theorem d_Mo_tellAll_61 : decode b_Mo_tellAll 61 = .ok (.iconst 3, 1) := by decide +kernel
theorem d_Mo_tellAll_62 : decode b_Mo_tellAll 62 = .ok (.invokevirtual 156, 3) := by decide +kernel
theorem d_Mo_tellAll_65 : decode b_Mo_tellAll 65 = .ok (.aload_n 0, 1) := by decide +kernel
theorem d_Mo_tellAll_66 : decode b_Mo_tellAll 66 = .ok (.invokevirtual 166, 3) := by decide +kernel
theorem d_Mo_tellAll_69 : decode b_Mo_tellAll 69 = .ok (.aload_n 0, 1) := by decide +kernel
theorem d_Mo_tellAll_70 : decode b_Mo_tellAll 70 = .ok (.getfield 98, 3) := by decide +kernel
theorem d_Mo_tellAll_73 : decode b_Mo_tellAll 73 = .ok (.ifCond .ne 38, 3) := by decide +kernel
theorem d_Mo_tellAll_76 : decode b_Mo_tellAll 76 = .ok (.aload_n 0, 1) := by decide +kernel
theorem d_Mo_tellAll_77 : decode b_Mo_tellAll 77 = .ok (.invokevirtual 169, 3) := by decide +kernel
theorem d_Mo_tellAll_80 : decode b_Mo_tellAll 80 = .ok (.aload_n 0, 1) := by decide +kernel
theorem d_Mo_tellAll_81 : decode b_Mo_tellAll 81 = .ok (.invokevirtual 172, 3) := by decide +kernel
theorem d_Mo_tellAll_84 : decode b_Mo_tellAll 84 = .ok (.iconst 0, 1) := by decide +kernel
theorem d_Mo_tellAll_85 : decode b_Mo_tellAll 85 = .ok (.istore_n 2, 1) := by decide +kernel
theorem d_Mo_tellAll_86 : decode b_Mo_tellAll 86 = .ok (.iload_n 2, 1) := by decide +kernel
theorem d_Mo_tellAll_87 : decode b_Mo_tellAll 87 = .ok (.aload_n 0, 1) := by decide +kernel
theorem d_Mo_tellAll_88 : decode b_Mo_tellAll 88 = .ok (.getfield 108, 3) := by decide +kernel
theorem d_Mo_tellAll_91 : decode b_Mo_tellAll 91 = .ok (.if_icmp .ge 20, 3) := by decide +kernel
theorem d_Mo_tellAll_94 : decode b_Mo_tellAll 94 = .ok (.aload_n 0, 1) := by decide +kernel
theorem d_Mo_tellAll_95 : decode b_Mo_tellAll 95 = .ok (.aload_n 0, 1) := by decide +kernel
theorem d_Mo_tellAll_96 : decode b_Mo_tellAll 96 = .ok (.getfield 48, 3) := by decide +kernel
theorem d_Mo_tellAll_99 : decode b_Mo_tellAll 99 = .ok (.iload_n 2, 1) := by decide +kernel
theorem d_Mo_tellAll_100 : decode b_Mo_tellAll 100 = .ok (.iaload, 1) := by decide +kernel
theorem d_Mo_tellAll_101 : decode b_Mo_tellAll 101 = .ok (.iconst 4, 1) := by decide +kernel
theorem d_Mo_tellAll_102 : decode b_Mo_tellAll 102 = .ok (.invokevirtual 156, 3) := by decide +kernel
theorem d_Mo_tellAll_105 : decode b_Mo_tellAll 105 = .ok (.iinc 2 1, 3) := by decide +kernel
theorem d_Mo_tellAll_108 : decode b_Mo_tellAll 108 = .ok (.goto (-22), 3) := by decide +kernel
theorem d_Mo_tellAll_111 : decode b_Mo_tellAll 111 = .ok (.iconst 0, 1) := by decide +kernel
theorem d_Mo_tellAll_112 : decode b_Mo_tellAll 112 = .ok (.istore_n 2, 1) := by decide +kernel
theorem d_Mo_tellAll_113 : decode b_Mo_tellAll 113 = .ok (.iconst 0, 1) := by decide +kernel
theorem d_Mo_tellAll_114 : decode b_Mo_tellAll 114 = .ok (.istore_n 3, 1) := by decide +kernel
theorem d_Mo_tellAll_115 : decode b_Mo_tellAll 115 = .ok (.iconst 0, 1) := by decide +kernel
theorem d_Mo_tellAll_116 : decode b_Mo_tellAll 116 = .ok (.istore 4, 2) := by decide +kernel
theorem d_Mo_tellAll_118 : decode b_Mo_tellAll 118 = .ok (.iload 4, 2) := by decide +kernel
theorem d_Mo_tellAll_120 : decode b_Mo_tellAll 120 = .ok (.aload_n 0, 1) := by decide +kernel
theorem d_Mo_tellAll_121 : decode b_Mo_tellAll 121 = .ok (.getfield 116, 3) := by decide +kernel
theorem d_Mo_tellAll_124 : decode b_Mo_tellAll 124 = .ok (.if_icmp .ge 270, 3) := by decide +kernel
theorem d_Mo_tellAll_127 : decode b_Mo_tellAll 127 = .ok (.aload_n 0, 1) := by decide +kernel
theorem d_Mo_tellAll_128 : decode b_Mo_tellAll 128 = .ok (.getfield 35, 3) := by decide +kernel
theorem d_Mo_tellAll_131 : decode b_Mo_tellAll 131 = .ok (.iload 4, 2) := by decide +kernel
theorem d_Mo_tellAll_133 : decode b_Mo_tellAll 133 = .ok (.iaload, 1) := by decide +kernel
theorem d_Mo_tellAll_134 : decode b_Mo_tellAll 134 = .ok (.istore 5, 2) := by decide +kernel
theorem d_Mo_tellAll_136 : decode b_Mo_tellAll 136 = .ok (.aload_n 0, 1) := by decide +kernel
theorem d_Mo_tellAll_137 : decode b_Mo_tellAll 137 = .ok (.iload 5, 2) := by decide +kernel
theorem d_Mo_tellAll_139 : decode b_Mo_tellAll 139 = .ok (.invokevirtual 133, 3) := by decide +kernel
theorem d_Mo_tellAll_142 : decode b_Mo_tellAll 142 = .ok (.istore 6, 2) := by decide +kernel
theorem d_Mo_tellAll_144 : decode b_Mo_tellAll 144 = .ok (.iload 4, 2) := by decide +kernel
theorem d_Mo_tellAll_146 : decode b_Mo_tellAll 146 = .ok (.ifCond .eq 9, 3) := by decide +kernel
theorem d_Mo_tellAll_149 : decode b_Mo_tellAll 149 = .ok (.iload 6, 2) := by decide +kernel
theorem d_Mo_tellAll_151 : decode b_Mo_tellAll 151 = .ok (.iload_n 2, 1) := by decide +kernel
theorem d_Mo_tellAll_152 : decode b_Mo_tellAll 152 = .ok (.if_icmp .eq 51, 3) := by decide +kernel
theorem d_Mo_tellAll_155 : decode b_Mo_tellAll 155 = .ok (.aload_n 0, 1) := by decide +kernel
theorem d_Mo_tellAll_156 : decode b_Mo_tellAll 156 = .ok (.iload 4, 2) := by decide +kernel
theorem d_Mo_tellAll_158 : decode b_Mo_tellAll 158 = .ok (.ifCond .ne 11, 3) := by decide +kernel
theorem d_Mo_tellAll_161 : decode b_Mo_tellAll 161 = .ok (.iload 6, 2) := by decide +kernel
theorem d_Mo_tellAll_163 : decode b_Mo_tellAll 163 = .ok (.bipush 16, 2) := by decide +kernel
theorem d_Mo_tellAll_165 : decode b_Mo_tellAll 165 = .ok (.iadd, 1) := by decide +kernel
theorem d_Mo_tellAll_166 : decode b_Mo_tellAll 166 = .ok (.goto 9, 3) := by decide +kernel
theorem d_Mo_tellAll_169 : decode b_Mo_tellAll 169 = .ok (.iload 6, 2) := by decide +kernel
theorem d_Mo_tellAll_171 : decode b_Mo_tellAll 171 = .ok (.iload_n 2, 1) := by decide +kernel
theorem d_Mo_tellAll_172 : decode b_Mo_tellAll 172 = .ok (.isub, 1) := by decide +kernel
theorem d_Mo_tellAll_173 : decode b_Mo_tellAll 173 = .ok (.iconst 1, 1) := by decide +kernel
theorem d_Mo_tellAll_174 : decode b_Mo_tellAll 174 = .ok (.isub, 1) := by decide +kernel
theorem d_Mo_tellAll_175 : decode b_Mo_tellAll 175 = .ok (.invokevirtual 160, 3) := by decide +kernel
theorem d_Mo_tellAll_178 : decode b_Mo_tellAll 178 = .ok (.aload_n 0, 1) := by decide +kernel
theorem d_Mo_tellAll_179 : decode b_Mo_tellAll 179 = .ok (.aload_n 0, 1) := by decide +kernel
theorem d_Mo_tellAll_180 : decode b_Mo_tellAll 180 = .ok (.iload 5, 2) := by decide +kernel
theorem d_Mo_tellAll_182 : decode b_Mo_tellAll 182 = .ok (.invokevirtual 175, 3) := by decide +kernel
theorem d_Mo_tellAll_185 : decode b_Mo_tellAll 185 = .ok (.iload_n 3, 1) := by decide +kernel
theorem d_Mo_tellAll_186 : decode b_Mo_tellAll 186 = .ok (.isub, 1) := by decide +kernel
theorem d_Mo_tellAll_187 : decode b_Mo_tellAll 187 = .ok (.invokevirtual 178, 3) := by decide +kernel
theorem d_Mo_tellAll_190 : decode b_Mo_tellAll 190 = .ok (.aload_n 0, 1) := by decide +kernel
theorem d_Mo_tellAll_191 : decode b_Mo_tellAll 191 = .ok (.iload 5, 2) := by decide +kernel
theorem d_Mo_tellAll_193 : decode b_Mo_tellAll 193 = .ok (.invokevirtual 175, 3) := by decide +kernel
theorem d_Mo_tellAll_196 : decode b_Mo_tellAll 196 = .ok (.istore_n 3, 1) := by decide +kernel
theorem d_Mo_tellAll_197 : decode b_Mo_tellAll 197 = .ok (.iload 6, 2) := by decide +kernel
theorem d_Mo_tellAll_199 : decode b_Mo_tellAll 199 = .ok (.istore_n 2, 1) := by decide +kernel
theorem d_Mo_tellAll_200 : decode b_Mo_tellAll 200 = .ok (.goto 78, 3) := by decide +kernel
theorem d_Mo_tellAll_203 : decode b_Mo_tellAll 203 = .ok (.aload_n 0, 1) := by decide +kernel
theorem d_Mo_tellAll_204 : decode b_Mo_tellAll 204 = .ok (.getfield 35, 3) := by decide +kernel
theorem d_Mo_tellAll_207 : decode b_Mo_tellAll 207 = .ok (.iload 4, 2) := by decide +kernel
theorem d_Mo_tellAll_209 : decode b_Mo_tellAll 209 = .ok (.iconst 1, 1) := by decide +kernel
theorem d_Mo_tellAll_210 : decode b_Mo_tellAll 210 = .ok (.isub, 1) := by decide +kernel
theorem d_Mo_tellAll_211 : decode b_Mo_tellAll 211 = .ok (.iaload, 1) := by decide +kernel
theorem d_Mo_tellAll_212 : decode b_Mo_tellAll 212 = .ok (.istore 7, 2) := by decide +kernel
theorem d_Mo_tellAll_214 : decode b_Mo_tellAll 214 = .ok (.aload_n 0, 1) := by decide +kernel
theorem d_Mo_tellAll_215 : decode b_Mo_tellAll 215 = .ok (.iload 7, 2) := by decide +kernel
theorem d_Mo_tellAll_217 : decode b_Mo_tellAll 217 = .ok (.invokevirtual 175, 3) := by decide +kernel
theorem d_Mo_tellAll_220 : decode b_Mo_tellAll 220 = .ok (.aload_n 0, 1) := by decide +kernel
theorem d_Mo_tellAll_221 : decode b_Mo_tellAll 221 = .ok (.getfield 32, 3) := by decide +kernel
theorem d_Mo_tellAll_224 : decode b_Mo_tellAll 224 = .ok (.iconst 1, 1) := by decide +kernel
theorem d_Mo_tellAll_225 : decode b_Mo_tellAll 225 = .ok (.iaload, 1) := by decide +kernel
theorem d_Mo_tellAll_226 : decode b_Mo_tellAll 226 = .ok (.iconst 1, 1) := by decide +kernel
theorem d_Mo_tellAll_227 : decode b_Mo_tellAll 227 = .ok (.if_icmp .ne 18, 3) := by decide +kernel
theorem d_Mo_tellAll_230 : decode b_Mo_tellAll 230 = .ok (.aload_n 0, 1) := by decide +kernel
theorem d_Mo_tellAll_231 : decode b_Mo_tellAll 231 = .ok (.getfield 13, 3) := by decide +kernel
theorem d_Mo_tellAll_234 : decode b_Mo_tellAll 234 = .ok (.aload_n 0, 1) := by decide +kernel
theorem d_Mo_tellAll_235 : decode b_Mo_tellAll 235 = .ok (.getfield 20, 3) := by decide +kernel
theorem d_Mo_tellAll_238 : decode b_Mo_tellAll 238 = .ok (.iload 7, 2) := by decide +kernel
theorem d_Mo_tellAll_240 : decode b_Mo_tellAll 240 = .ok (.iaload, 1) := by decide +kernel
theorem d_Mo_tellAll_241 : decode b_Mo_tellAll 241 = .ok (.iaload, 1) := by decide +kernel
theorem d_Mo_tellAll_242 : decode b_Mo_tellAll 242 = .ok (.goto 15, 3) := by decide +kernel
theorem d_Mo_tellAll_245 : decode b_Mo_tellAll 245 = .ok (.aload_n 0, 1) := by decide +kernel
theorem d_Mo_tellAll_246 : decode b_Mo_tellAll 246 = .ok (.getfield 7, 3) := by decide +kernel
theorem d_Mo_tellAll_249 : decode b_Mo_tellAll 249 = .ok (.aload_n 0, 1) := by decide +kernel
theorem d_Mo_tellAll_250 : decode b_Mo_tellAll 250 = .ok (.getfield 20, 3) := by decide +kernel
theorem d_Mo_tellAll_253 : decode b_Mo_tellAll 253 = .ok (.iload 7, 2) := by decide +kernel
theorem d_Mo_tellAll_255 : decode b_Mo_tellAll 255 = .ok (.iaload, 1) := by decide +kernel
theorem d_Mo_tellAll_256 : decode b_Mo_tellAll 256 = .ok (.iaload, 1) := by decide +kernel
theorem d_Mo_tellAll_257 : decode b_Mo_tellAll 257 = .ok (.iadd, 1) := by decide +kernel
theorem d_Mo_tellAll_258 : decode b_Mo_tellAll 258 = .ok (.istore 8, 2) := by decide +kernel
theorem d_Mo_tellAll_260 : decode b_Mo_tellAll 260 = .ok (.aload_n 0, 1) := by decide +kernel
theorem d_Mo_tellAll_261 : decode b_Mo_tellAll 261 = .ok (.iconst 1, 1) := by decide +kernel
theorem d_Mo_tellAll_262 : decode b_Mo_tellAll 262 = .ok (.invokevirtual 153, 3) := by decide +kernel
theorem d_Mo_tellAll_265 : decode b_Mo_tellAll 265 = .ok (.aload_n 0, 1) := by decide +kernel
theorem d_Mo_tellAll_266 : decode b_Mo_tellAll 266 = .ok (.aload_n 0, 1) := by decide +kernel
theorem d_Mo_tellAll_267 : decode b_Mo_tellAll 267 = .ok (.iload 5, 2) := by decide +kernel
theorem d_Mo_tellAll_269 : decode b_Mo_tellAll 269 = .ok (.invokevirtual 175, 3) := by decide +kernel
theorem d_Mo_tellAll_272 : decode b_Mo_tellAll 272 = .ok (.iload 8, 2) := by decide +kernel
theorem d_Mo_tellAll_274 : decode b_Mo_tellAll 274 = .ok (.isub, 1) := by decide +kernel
theorem d_Mo_tellAll_275 : decode b_Mo_tellAll 275 = .ok (.invokevirtual 178, 3) := by decide +kernel
theorem d_Mo_tellAll_278 : decode b_Mo_tellAll 278 = .ok (.aload_n 0, 1) := by decide +kernel
theorem d_Mo_tellAll_279 : decode b_Mo_tellAll 279 = .ok (.aload_n 0, 1) := by decide +kernel
theorem d_Mo_tellAll_280 : decode b_Mo_tellAll 280 = .ok (.iload 5, 2) := by decide +kernel
theorem d_Mo_tellAll_282 : decode b_Mo_tellAll 282 = .ok (.invokevirtual 130, 3) := by decide +kernel
theorem d_Mo_tellAll_285 : decode b_Mo_tellAll 285 = .ok (.iload 6, 2) := by decide +kernel
theorem d_Mo_tellAll_287 : decode b_Mo_tellAll 287 = .ok (.aload_n 0, 1) := by decide +kernel
theorem d_Mo_tellAll_288 : decode b_Mo_tellAll 288 = .ok (.getfield 32, 3) := by decide +kernel
theorem d_Mo_tellAll_291 : decode b_Mo_tellAll 291 = .ok (.iconst 2, 1) := by decide +kernel
theorem d_Mo_tellAll_292 : decode b_Mo_tellAll 292 = .ok (.iaload, 1) := by decide +kernel
theorem d_Mo_tellAll_293 : decode b_Mo_tellAll 293 = .ok (.ishl, 1) := by decide +kernel
theorem d_Mo_tellAll_294 : decode b_Mo_tellAll 294 = .ok (.isub, 1) := by decide +kernel
theorem d_Mo_tellAll_295 : decode b_Mo_tellAll 295 = .ok (.aload_n 0, 1) := by decide +kernel
theorem d_Mo_tellAll_296 : decode b_Mo_tellAll 296 = .ok (.getfield 32, 3) := by decide +kernel
theorem d_Mo_tellAll_299 : decode b_Mo_tellAll 299 = .ok (.iconst 2, 1) := by decide +kernel
theorem d_Mo_tellAll_300 : decode b_Mo_tellAll 300 = .ok (.iaload, 1) := by decide +kernel
theorem d_Mo_tellAll_301 : decode b_Mo_tellAll 301 = .ok (.invokevirtual 156, 3) := by decide +kernel
theorem d_Mo_tellAll_304 : decode b_Mo_tellAll 304 = .ok (.aload_n 0, 1) := by decide +kernel
theorem d_Mo_tellAll_305 : decode b_Mo_tellAll 305 = .ok (.aload_n 0, 1) := by decide +kernel
theorem d_Mo_tellAll_306 : decode b_Mo_tellAll 306 = .ok (.getfield 20, 3) := by decide +kernel
theorem d_Mo_tellAll_309 : decode b_Mo_tellAll 309 = .ok (.iload 5, 2) := by decide +kernel
theorem d_Mo_tellAll_311 : decode b_Mo_tellAll 311 = .ok (.iaload, 1) := by decide +kernel
theorem d_Mo_tellAll_312 : decode b_Mo_tellAll 312 = .ok (.invokevirtual 181, 3) := by decide +kernel
theorem d_Mo_tellAll_315 : decode b_Mo_tellAll 315 = .ok (.aload_n 0, 1) := by decide +kernel
theorem d_Mo_tellAll_316 : decode b_Mo_tellAll 316 = .ok (.aload_n 0, 1) := by decide +kernel
theorem d_Mo_tellAll_317 : decode b_Mo_tellAll 317 = .ok (.getfield 29, 3) := by decide +kernel
theorem d_Mo_tellAll_320 : decode b_Mo_tellAll 320 = .ok (.iload 5, 2) := by decide +kernel
theorem d_Mo_tellAll_322 : decode b_Mo_tellAll 322 = .ok (.laload, 1) := by decide +kernel
theorem d_Mo_tellAll_323 : decode b_Mo_tellAll 323 = .ok (.lconst 0, 1) := by decide +kernel
theorem d_Mo_tellAll_324 : decode b_Mo_tellAll 324 = .ok (.lcmp, 1) := by decide +kernel
theorem d_Mo_tellAll_325 : decode b_Mo_tellAll 325 = .ok (.ifCond .ne 7, 3) := by decide +kernel
theorem d_Mo_tellAll_328 : decode b_Mo_tellAll 328 = .ok (.iconst 0, 1) := by decide +kernel
theorem d_Mo_tellAll_329 : decode b_Mo_tellAll 329 = .ok (.goto 4, 3) := by decide +kernel
theorem d_Mo_tellAll_332 : decode b_Mo_tellAll 332 = .ok (.iconst 1, 1) := by decide +kernel
theorem d_Mo_tellAll_333 : decode b_Mo_tellAll 333 = .ok (.invokevirtual 153, 3) := by decide +kernel
theorem d_Mo_tellAll_336 : decode b_Mo_tellAll 336 = .ok (.aload_n 0, 1) := by decide +kernel
theorem d_Mo_tellAll_337 : decode b_Mo_tellAll 337 = .ok (.getfield 29, 3) := by decide +kernel
theorem d_Mo_tellAll_340 : decode b_Mo_tellAll 340 = .ok (.iload 5, 2) := by decide +kernel
theorem d_Mo_tellAll_342 : decode b_Mo_tellAll 342 = .ok (.laload, 1) := by decide +kernel
theorem d_Mo_tellAll_343 : decode b_Mo_tellAll 343 = .ok (.lconst 0, 1) := by decide +kernel
theorem d_Mo_tellAll_344 : decode b_Mo_tellAll 344 = .ok (.lcmp, 1) := by decide +kernel
theorem d_Mo_tellAll_345 : decode b_Mo_tellAll 345 = .ok (.ifCond .eq 9, 3) := by decide +kernel
theorem d_Mo_tellAll_348 : decode b_Mo_tellAll 348 = .ok (.aload_n 0, 1) := by decide +kernel
theorem d_Mo_tellAll_349 : decode b_Mo_tellAll 349 = .ok (.iload 5, 2) := by decide +kernel
theorem d_Mo_tellAll_351 : decode b_Mo_tellAll 351 = .ok (.invokevirtual 184, 3) := by decide +kernel
theorem d_Mo_tellAll_354 : decode b_Mo_tellAll 354 = .ok (.iload 4, 2) := by decide +kernel
theorem d_Mo_tellAll_356 : decode b_Mo_tellAll 356 = .ok (.iconst 1, 1) := by decide +kernel
theorem d_Mo_tellAll_357 : decode b_Mo_tellAll 357 = .ok (.iadd, 1) := by decide +kernel
theorem d_Mo_tellAll_358 : decode b_Mo_tellAll 358 = .ok (.aload_n 0, 1) := by decide +kernel
theorem d_Mo_tellAll_359 : decode b_Mo_tellAll 359 = .ok (.getfield 116, 3) := by decide +kernel
theorem d_Mo_tellAll_362 : decode b_Mo_tellAll 362 = .ok (.if_icmp .eq 21, 3) := by decide +kernel
theorem d_Mo_tellAll_365 : decode b_Mo_tellAll 365 = .ok (.aload_n 0, 1) := by decide +kernel
theorem d_Mo_tellAll_366 : decode b_Mo_tellAll 366 = .ok (.aload_n 0, 1) := by decide +kernel
theorem d_Mo_tellAll_367 : decode b_Mo_tellAll 367 = .ok (.getfield 35, 3) := by decide +kernel
theorem d_Mo_tellAll_370 : decode b_Mo_tellAll 370 = .ok (.iload 4, 2) := by decide +kernel
theorem d_Mo_tellAll_372 : decode b_Mo_tellAll 372 = .ok (.iconst 1, 1) := by decide +kernel
theorem d_Mo_tellAll_373 : decode b_Mo_tellAll 373 = .ok (.iadd, 1) := by decide +kernel
theorem d_Mo_tellAll_374 : decode b_Mo_tellAll 374 = .ok (.iaload, 1) := by decide +kernel
theorem d_Mo_tellAll_375 : decode b_Mo_tellAll 375 = .ok (.invokevirtual 133, 3) := by decide +kernel
theorem d_Mo_tellAll_378 : decode b_Mo_tellAll 378 = .ok (.iload 6, 2) := by decide +kernel
theorem d_Mo_tellAll_380 : decode b_Mo_tellAll 380 = .ok (.if_icmp .eq 8, 3) := by decide +kernel
theorem d_Mo_tellAll_383 : decode b_Mo_tellAll 383 = .ok (.aload_n 0, 1) := by decide +kernel
theorem d_Mo_tellAll_384 : decode b_Mo_tellAll 384 = .ok (.iconst 0, 1) := by decide +kernel
theorem d_Mo_tellAll_385 : decode b_Mo_tellAll 385 = .ok (.invokevirtual 153, 3) := by decide +kernel
theorem d_Mo_tellAll_388 : decode b_Mo_tellAll 388 = .ok (.iinc 4 1, 3) := by decide +kernel
theorem d_Mo_tellAll_391 : decode b_Mo_tellAll 391 = .ok (.goto (-273), 3) := by decide +kernel
theorem d_Mo_tellAll_394 : decode b_Mo_tellAll 394 = .ok (.return_, 1) := by decide +kernel
theorem d_Mo_change_0 : decode b_Mo_change 0 = .ok (.aload_n 0, 1) := by decide +kernel
theorem d_Mo_change_1 : decode b_Mo_change 1 = .ok (.getfield 20, 3) := by decide +kernel
theorem d_Mo_change_4 : decode b_Mo_change 4 = .ok (.iload_n 1, 1) := by decide +kernel
theorem d_Mo_change_5 : decode b_Mo_change 5 = .ok (.iaload, 1) := by decide +kernel
theorem d_Mo_change_6 : decode b_Mo_change 6 = .ok (.istore_n 3, 1) := by decide +kernel
theorem d_Mo_change_7 : decode b_Mo_change 7 = .ok (.aload_n 0, 1) := by decide +kernel
theorem d_Mo_change_8 : decode b_Mo_change 8 = .ok (.getfield 20, 3) := by decide +kernel
theorem d_Mo_change_11 : decode b_Mo_change 11 = .ok (.iload_n 1, 1) := by decide +kernel
theorem d_Mo_change_12 : decode b_Mo_change 12 = .ok (.aload_n 0, 1) := by decide +kernel
theorem d_Mo_change_13 : decode b_Mo_change 13 = .ok (.getfield 20, 3) := by decide +kernel
theorem d_Mo_change_16 : decode b_Mo_change 16 = .ok (.iload_n 2, 1) := by decide +kernel
theorem d_Mo_change_17 : decode b_Mo_change 17 = .ok (.iaload, 1) := by decide +kernel
theorem d_Mo_change_18 : decode b_Mo_change 18 = .ok (.iastore, 1) := by decide +kernel
theorem d_Mo_change_19 : decode b_Mo_change 19 = .ok (.aload_n 0, 1) := by decide +kernel
theorem d_Mo_change_20 : decode b_Mo_change 20 = .ok (.getfield 20, 3) := by decide +kernel
theorem d_Mo_change_23 : decode b_Mo_change 23 = .ok (.iload_n 2, 1) := by decide +kernel
theorem d_Mo_change_24 : decode b_Mo_change 24 = .ok (.iload_n 3, 1) := by decide +kernel
theorem d_Mo_change_25 : decode b_Mo_change 25 = .ok (.iastore, 1) := by decide +kernel
theorem d_Mo_change_26 : decode b_Mo_change 26 = .ok (.aload_n 0, 1) := by decide +kernel
theorem d_Mo_change_27 : decode b_Mo_change 27 = .ok (.getfield 23, 3) := by decide +kernel
theorem d_Mo_change_30 : decode b_Mo_change 30 = .ok (.iload_n 1, 1) := by decide +kernel
theorem d_Mo_change_31 : decode b_Mo_change 31 = .ok (.iaload, 1) := by decide +kernel
theorem d_Mo_change_32 : decode b_Mo_change 32 = .ok (.istore_n 3, 1) := by decide +kernel
theorem d_Mo_change_33 : decode b_Mo_change 33 = .ok (.aload_n 0, 1) := by decide +kernel
theorem d_Mo_change_34 : decode b_Mo_change 34 = .ok (.getfield 23, 3) := by decide +kernel
theorem d_Mo_change_37 : decode b_Mo_change 37 = .ok (.iload_n 1, 1) := by decide +kernel
theorem d_Mo_change_38 : decode b_Mo_change 38 = .ok (.aload_n 0, 1) := by decide +kernel
theorem d_Mo_change_39 : decode b_Mo_change 39 = .ok (.getfield 23, 3) := by decide +kernel
theorem d_Mo_change_42 : decode b_Mo_change 42 = .ok (.iload_n 2, 1) := by decide +kernel
theorem d_Mo_change_43 : decode b_Mo_change 43 = .ok (.iaload, 1) := by decide +kernel
theorem d_Mo_change_44 : decode b_Mo_change 44 = .ok (.iastore, 1) := by decide +kernel
theorem d_Mo_change_45 : decode b_Mo_change 45 = .ok (.aload_n 0, 1) := by decide +kernel
theorem d_Mo_change_46 : decode b_Mo_change 46 = .ok (.getfield 23, 3) := by decide +kernel
theorem d_Mo_change_49 : decode b_Mo_change 49 = .ok (.iload_n 2, 1) := by decide +kernel
theorem d_Mo_change_50 : decode b_Mo_change 50 = .ok (.iload_n 3, 1) := by decide +kernel
theorem d_Mo_change_51 : decode b_Mo_change 51 = .ok (.iastore, 1) := by decide +kernel
theorem d_Mo_change_52 : decode b_Mo_change 52 = .ok (.aload_n 0, 1) := by decide +kernel
theorem d_Mo_change_53 : decode b_Mo_change 53 = .ok (.getfield 26, 3) := by decide +kernel
theorem d_Mo_change_56 : decode b_Mo_change 56 = .ok (.iload_n 1, 1) := by decide +kernel
theorem d_Mo_change_57 : decode b_Mo_change 57 = .ok (.iaload, 1) := by decide +kernel
theorem d_Mo_change_58 : decode b_Mo_change 58 = .ok (.istore_n 3, 1) := by decide +kernel
theorem d_Mo_change_59 : decode b_Mo_change 59 = .ok (.aload_n 0, 1) := by decide +kernel
theorem d_Mo_change_60 : decode b_Mo_change 60 = .ok (.getfield 26, 3) := by decide +kernel
theorem d_Mo_change_63 : decode b_Mo_change 63 = .ok (.iload_n 1, 1) := by decide +kernel
theorem d_Mo_change_64 : decode b_Mo_change 64 = .ok (.aload_n 0, 1) := by decide +kernel
theorem d_Mo_change_65 : decode b_Mo_change 65 = .ok (.getfield 26, 3) := by decide +kernel
theorem d_Mo_change_68 : decode b_Mo_change 68 = .ok (.iload_n 2, 1) := by decide +kernel
theorem d_Mo_change_69 : decode b_Mo_change 69 = .ok (.iaload, 1) := by decide +kernel
theorem d_Mo_change_70 : decode b_Mo_change 70 = .ok (.iastore, 1) := by decide +kernel
theorem d_Mo_change_71 : decode b_Mo_change 71 = .ok (.aload_n 0, 1) := by decide +kernel
theorem d_Mo_change_72 : decode b_Mo_change 72 = .ok (.getfield 26, 3) := by decide +kernel
theorem d_Mo_change_75 : decode b_Mo_change 75 = .ok (.iload_n 2, 1) := by decide +kernel
theorem d_Mo_change_76 : decode b_Mo_change 76 = .ok (.iload_n 3, 1) := by decide +kernel
theorem d_Mo_change_77 : decode b_Mo_change 77 = .ok (.iastore, 1) := by decide +kernel
theorem d_Mo_change_78 : decode b_Mo_change 78 = .ok (.aload_n 0, 1) := by decide +kernel
theorem d_Mo_change_79 : decode b_Mo_change 79 = .ok (.getfield 29, 3) := by decide +kernel
theorem d_Mo_change_82 : decode b_Mo_change 82 = .ok (.iload_n 1, 1) := by decide +kernel
theorem d_Mo_change_83 : decode b_Mo_change 83 = .ok (.laload, 1) := by decide +kernel
theorem d_Mo_change_84 : decode b_Mo_change 84 = .ok (.lstore 4, 2) := by decide +kernel
theorem d_Mo_change_86 : decode b_Mo_change 86 = .ok (.aload_n 0, 1) := by decide +kernel
theorem d_Mo_change_87 : decode b_Mo_change 87 = .ok (.getfield 29, 3) := by decide +kernel
theorem d_Mo_change_90 : decode b_Mo_change 90 = .ok (.iload_n 1, 1) := by decide +kernel
theorem d_Mo_change_91 : decode b_Mo_change 91 = .ok (.aload_n 0, 1) := by decide +kernel
theorem d_Mo_change_92 : decode b_Mo_change 92 = .ok (.getfield 29, 3) := by decide +kernel
theorem d_Mo_change_95 : decode b_Mo_change 95 = .ok (.iload_n 2, 1) := by decide +kernel
theorem d_Mo_change_96 : decode b_Mo_change 96 = .ok (.laload, 1) := by decide +kernel
theorem d_Mo_change_97 : decode b_Mo_change 97 = .ok (.lastore, 1) := by decide +kernel
theorem d_Mo_change_98 : decode b_Mo_change 98 = .ok (.aload_n 0, 1) := by decide +kernel
theorem d_Mo_change_99 : decode b_Mo_change 99 = .ok (.getfield 29, 3) := by decide +kernel
theorem d_Mo_change_102 : decode b_Mo_change 102 = .ok (.iload_n 2, 1) := by decide +kernel
theorem d_Mo_change_103 : decode b_Mo_change 103 = .ok (.lload 4, 2) := by decide +kernel
theorem d_Mo_change_105 : decode b_Mo_change 105 = .ok (.lastore, 1) := by decide +kernel
theorem d_Mo_change_106 : decode b_Mo_change 106 = .ok (.return_, 1) := by decide +kernel
theorem d_Mo_order_0 : decode b_Mo_order 0 = .ok (.aload_n 0, 1) := by decide +kernel
theorem d_Mo_order_1 : decode b_Mo_order 1 = .ok (.iload_n 1, 1) := by decide +kernel
theorem d_Mo_order_2 : decode b_Mo_order 2 = .ok (.iconst 0, 1) := by decide +kernel
theorem d_Mo_order_3 : decode b_Mo_order 3 = .ok (.bipush 8, 2) := by decide +kernel
theorem d_Mo_order_5 : decode b_Mo_order 5 = .ok (.invokestatic 104, 3) := by decide +kernel
theorem d_Mo_order_8 : decode b_Mo_order 8 = .ok (.ifCond .eq 7, 3) := by decide +kernel
theorem d_Mo_order_11 : decode b_Mo_order 11 = .ok (.iconst 0, 1) := by decide +kernel
theorem d_Mo_order_12 : decode b_Mo_order 12 = .ok (.goto 4, 3) := by decide +kernel
theorem d_Mo_order_15 : decode b_Mo_order 15 = .ok (.iconst 1, 1) := by decide +kernel
theorem d_Mo_order_16 : decode b_Mo_order 16 = .ok (.putfield 101, 3) := by decide +kernel
theorem d_Mo_order_19 : decode b_Mo_order 19 = .ok (.aload_n 0, 1) := by decide +kernel
theorem d_Mo_order_20 : decode b_Mo_order 20 = .ok (.getfield 101, 3) := by decide +kernel
theorem d_Mo_order_23 : decode b_Mo_order 23 = .ok (.ifCond .le 5, 3) := by decide +kernel
theorem d_Mo_order_26 : decode b_Mo_order 26 = .ok (.iconst 0, 1) := by decide +kernel
theorem d_Mo_order_27 : decode b_Mo_order 27 = .ok (.ireturn, 1) := by decide +kernel
theorem d_Mo_order_28 : decode b_Mo_order 28 = .ok (.aload_n 0, 1) := by decide +kernel
theorem d_Mo_order_29 : decode b_Mo_order 29 = .ok (.iconst 0, 1) := by decide +kernel
theorem d_Mo_order_30 : decode b_Mo_order 30 = .ok (.invokevirtual 187, 3) := by decide +kernel
theorem d_Mo_order_33 : decode b_Mo_order 33 = .ok (.aload_n 0, 1) := by decide +kernel
theorem d_Mo_order_34 : decode b_Mo_order 34 = .ok (.getfield 150, 3) := by decide +kernel
theorem d_Mo_order_37 : decode b_Mo_order 37 = .ok (.istore_n 2, 1) := by decide +kernel
theorem d_Mo_order_38 : decode b_Mo_order 38 = .ok (.aload_n 0, 1) := by decide +kernel
theorem d_Mo_order_39 : decode b_Mo_order 39 = .ok (.getfield 32, 3) := by decide +kernel
theorem d_Mo_order_42 : decode b_Mo_order 42 = .ok (.iconst 3, 1) := by decide +kernel
theorem d_Mo_order_43 : decode b_Mo_order 43 = .ok (.iaload, 1) := by decide +kernel
theorem d_Mo_order_44 : decode b_Mo_order 44 = .ok (.iconst 4, 1) := by decide +kernel
theorem d_Mo_order_45 : decode b_Mo_order 45 = .ok (.if_icmp .eq 7, 3) := by decide +kernel
theorem d_Mo_order_48 : decode b_Mo_order 48 = .ok (.iconst 1, 1) := by decide +kernel
theorem d_Mo_order_49 : decode b_Mo_order 49 = .ok (.goto 4, 3) := by decide +kernel
theorem d_Mo_order_52 : decode b_Mo_order 52 = .ok (.iconst 0, 1) := by decide +kernel
theorem d_Mo_order_53 : decode b_Mo_order 53 = .ok (.istore_n 3, 1) := by decide +kernel
theorem d_Mo_order_54 : decode b_Mo_order 54 = .ok (.iconst 0, 1) := by decide +kernel
theorem d_Mo_order_55 : decode b_Mo_order 55 = .ok (.istore 4, 2) := by decide +kernel
theorem d_Mo_order_57 : decode b_Mo_order 57 = .ok (.iload 4, 2) := by decide +kernel
theorem d_Mo_order_59 : decode b_Mo_order 59 = .ok (.iload_n 1, 1) := by decide +kernel
theorem d_Mo_order_60 : decode b_Mo_order 60 = .ok (.if_icmp .ge 95, 3) := by decide +kernel
theorem d_Mo_order_63 : decode b_Mo_order 63 = .ok (.iload_n 3, 1) := by decide +kernel
theorem d_Mo_order_64 : decode b_Mo_order 64 = .ok (.ifCond .eq 91, 3) := by decide +kernel
theorem d_Mo_order_67 : decode b_Mo_order 67 = .ok (.iconst 0, 1) := by decide +kernel
theorem d_Mo_order_68 : decode b_Mo_order 68 = .ok (.istore_n 3, 1) := by decide +kernel
theorem d_Mo_order_69 : decode b_Mo_order 69 = .ok (.iconst 0, 1) := by decide +kernel
theorem d_Mo_order_70 : decode b_Mo_order 70 = .ok (.istore 5, 2) := by decide +kernel
theorem d_Mo_order_72 : decode b_Mo_order 72 = .ok (.iload 5, 2) := by decide +kernel
theorem d_Mo_order_74 : decode b_Mo_order 74 = .ok (.iconst 1, 1) := by decide +kernel
theorem d_Mo_order_75 : decode b_Mo_order 75 = .ok (.iadd, 1) := by decide +kernel
theorem d_Mo_order_76 : decode b_Mo_order 76 = .ok (.aload_n 0, 1) := by decide +kernel
theorem d_Mo_order_77 : decode b_Mo_order 77 = .ok (.getfield 116, 3) := by decide +kernel
theorem d_Mo_order_80 : decode b_Mo_order 80 = .ok (.if_icmp .ge 69, 3) := by decide +kernel
theorem d_Mo_order_83 : decode b_Mo_order 83 = .ok (.aload_n 0, 1) := by decide +kernel
theorem d_Mo_order_84 : decode b_Mo_order 84 = .ok (.iload 5, 2) := by decide +kernel
theorem d_Mo_order_86 : decode b_Mo_order 86 = .ok (.invokevirtual 133, 3) := by decide +kernel
theorem d_Mo_order_89 : decode b_Mo_order 89 = .ok (.aload_n 0, 1) := by decide +kernel
theorem d_Mo_order_90 : decode b_Mo_order 90 = .ok (.iload 5, 2) := by decide +kernel
theorem d_Mo_order_92 : decode b_Mo_order 92 = .ok (.iconst 1, 1) := by decide +kernel
theorem d_Mo_order_93 : decode b_Mo_order 93 = .ok (.iadd, 1) := by decide +kernel
theorem d_Mo_order_94 : decode b_Mo_order 94 = .ok (.invokevirtual 133, 3) := by decide +kernel
theorem d_Mo_order_97 : decode b_Mo_order 97 = .ok (.if_icmp .ne 46, 3) := by decide +kernel
theorem d_Mo_order_100 : decode b_Mo_order 100 = .ok (.aload_n 0, 1) := by decide +kernel
theorem d_Mo_order_101 : decode b_Mo_order 101 = .ok (.iload 5, 2) := by decide +kernel
theorem d_Mo_order_103 : decode b_Mo_order 103 = .ok (.iload 5, 2) := by decide +kernel
theorem d_Mo_order_105 : decode b_Mo_order 105 = .ok (.iconst 1, 1) := by decide +kernel
theorem d_Mo_order_106 : decode b_Mo_order 106 = .ok (.iadd, 1) := by decide +kernel
theorem d_Mo_order_107 : decode b_Mo_order 107 = .ok (.invokevirtual 191, 3) := by decide +kernel
theorem d_Mo_order_110 : decode b_Mo_order 110 = .ok (.aload_n 0, 1) := by decide +kernel
theorem d_Mo_order_111 : decode b_Mo_order 111 = .ok (.iconst 0, 1) := by decide +kernel
theorem d_Mo_order_112 : decode b_Mo_order 112 = .ok (.invokevirtual 187, 3) := by decide +kernel
theorem d_Mo_order_115 : decode b_Mo_order 115 = .ok (.aload_n 0, 1) := by decide +kernel
theorem d_Mo_order_116 : decode b_Mo_order 116 = .ok (.getfield 150, 3) := by decide +kernel
theorem d_Mo_order_119 : decode b_Mo_order 119 = .ok (.iload_n 2, 1) := by decide +kernel
theorem d_Mo_order_120 : decode b_Mo_order 120 = .ok (.if_icmp .ge 13, 3) := by decide +kernel
theorem d_Mo_order_123 : decode b_Mo_order 123 = .ok (.aload_n 0, 1) := by decide +kernel
theorem d_Mo_order_124 : decode b_Mo_order 124 = .ok (.getfield 150, 3) := by decide +kernel
theorem d_Mo_order_127 : decode b_Mo_order 127 = .ok (.istore_n 2, 1) := by decide +kernel
theorem d_Mo_order_128 : decode b_Mo_order 128 = .ok (.iconst 1, 1) := by decide +kernel
theorem d_Mo_order_129 : decode b_Mo_order 129 = .ok (.istore_n 3, 1) := by decide +kernel
theorem d_Mo_order_130 : decode b_Mo_order 130 = .ok (.goto 13, 3) := by decide +kernel
theorem d_Mo_order_133 : decode b_Mo_order 133 = .ok (.aload_n 0, 1) := by decide +kernel
theorem d_Mo_order_134 : decode b_Mo_order 134 = .ok (.iload 5, 2) := by decide +kernel
theorem d_Mo_order_136 : decode b_Mo_order 136 = .ok (.iload 5, 2) := by decide +kernel
theorem d_Mo_order_138 : decode b_Mo_order 138 = .ok (.iconst 1, 1) := by decide +kernel
theorem d_Mo_order_139 : decode b_Mo_order 139 = .ok (.iadd, 1) := by decide +kernel
theorem d_Mo_order_140 : decode b_Mo_order 140 = .ok (.invokevirtual 191, 3) := by decide +kernel
theorem d_Mo_order_143 : decode b_Mo_order 143 = .ok (.iinc 5 1, 3) := by decide +kernel
theorem d_Mo_order_146 : decode b_Mo_order 146 = .ok (.goto (-74), 3) := by decide +kernel
theorem d_Mo_order_149 : decode b_Mo_order 149 = .ok (.iinc 4 1, 3) := by decide +kernel
theorem d_Mo_order_152 : decode b_Mo_order 152 = .ok (.goto (-95), 3) := by decide +kernel
theorem d_Mo_order_155 : decode b_Mo_order 155 = .ok (.iload_n 2, 1) := by decide +kernel
theorem d_Mo_order_156 : decode b_Mo_order 156 = .ok (.ireturn, 1) := by decide +kernel
theorem d_Mo_write_0 : decode b_Mo_write 0 = .ok (.aload_n 0, 1) := by decide +kernel
theorem d_Mo_write_1 : decode b_Mo_write 1 = .ok (.iconst 0, 1) := by decide +kernel
theorem d_Mo_write_2 : decode b_Mo_write 2 = .ok (.putfield 101, 3) := by decide +kernel
theorem d_Mo_write_5 : decode b_Mo_write 5 = .ok (.aload_n 0, 1) := by decide +kernel
theorem d_Mo_write_6 : decode b_Mo_write 6 = .ok (.iconst 1, 1) := by decide +kernel
theorem d_Mo_write_7 : decode b_Mo_write 7 = .ok (.invokevirtual 187, 3) := by decide +kernel
theorem d_Mo_write_10 : decode b_Mo_write 10 = .ok (.aload_n 0, 1) := by decide +kernel
theorem d_Mo_write_11 : decode b_Mo_write 11 = .ok (.aload_n 0, 1) := by decide +kernel
theorem d_Mo_write_12 : decode b_Mo_write 12 = .ok (.getfield 150, 3) := by decide +kernel
theorem d_Mo_write_15 : decode b_Mo_write 15 = .ok (.bipush 7, 2) := by decide +kernel
theorem d_Mo_write_17 : decode b_Mo_write 17 = .ok (.iadd, 1) := by decide +kernel
theorem d_Mo_write_18 : decode b_Mo_write 18 = .ok (.bipush 8, 2) := by decide +kernel
theorem d_Mo_write_20 : decode b_Mo_write 20 = .ok (.idiv, 1) := by decide +kernel
theorem d_Mo_write_21 : decode b_Mo_write 21 = .ok (.putfield 194, 3) := by decide +kernel
theorem d_Mo_write_24 : decode b_Mo_write 24 = .ok (.aload_n 0, 1) := by decide +kernel
theorem d_Mo_write_25 : decode b_Mo_write 25 = .ok (.getfield 194, 3) := by decide +kernel
theorem d_Mo_write_28 : decode b_Mo_write 28 = .ok (.ireturn, 1) := by decide +kernel
theorem d_Mo_byteAt_0 : decode b_Mo_byteAt 0 = .ok (.aload_n 0, 1) := by decide +kernel
theorem d_Mo_byteAt_1 : decode b_Mo_byteAt 1 = .ok (.iload_n 1, 1) := by decide +kernel
theorem d_Mo_byteAt_2 : decode b_Mo_byteAt 2 = .ok (.iconst 0, 1) := by decide +kernel
theorem d_Mo_byteAt_3 : decode b_Mo_byteAt 3 = .ok (.aload_n 0, 1) := by decide +kernel
theorem d_Mo_byteAt_4 : decode b_Mo_byteAt 4 = .ok (.getfield 194, 3) := by decide +kernel
theorem d_Mo_byteAt_7 : decode b_Mo_byteAt 7 = .ok (.iconst 1, 1) := by decide +kernel
theorem d_Mo_byteAt_8 : decode b_Mo_byteAt 8 = .ok (.isub, 1) := by decide +kernel
theorem d_Mo_byteAt_9 : decode b_Mo_byteAt 9 = .ok (.invokestatic 104, 3) := by decide +kernel
theorem d_Mo_byteAt_12 : decode b_Mo_byteAt 12 = .ok (.ifCond .eq 7, 3) := by decide +kernel
theorem d_Mo_byteAt_15 : decode b_Mo_byteAt 15 = .ok (.iconst 0, 1) := by decide +kernel
theorem d_Mo_byteAt_16 : decode b_Mo_byteAt 16 = .ok (.goto 4, 3) := by decide +kernel
theorem d_Mo_byteAt_19 : decode b_Mo_byteAt 19 = .ok (.iconst 1, 1) := by decide +kernel
theorem d_Mo_byteAt_20 : decode b_Mo_byteAt 20 = .ok (.putfield 101, 3) := by decide +kernel
theorem d_Mo_byteAt_23 : decode b_Mo_byteAt 23 = .ok (.aload_n 0, 1) := by decide +kernel
theorem d_Mo_byteAt_24 : decode b_Mo_byteAt 24 = .ok (.getfield 101, 3) := by decide +kernel
theorem d_Mo_byteAt_27 : decode b_Mo_byteAt 27 = .ok (.ifCond .le 7, 3) := by decide +kernel
theorem d_Mo_byteAt_30 : decode b_Mo_byteAt 30 = .ok (.iconst 0, 1) := by decide +kernel
theorem d_Mo_byteAt_31 : decode b_Mo_byteAt 31 = .ok (.goto 9, 3) := by decide +kernel
theorem d_Mo_byteAt_34 : decode b_Mo_byteAt 34 = .ok (.aload_n 0, 1) := by decide +kernel
theorem d_Mo_byteAt_35 : decode b_Mo_byteAt 35 = .ok (.getfield 42, 3) := by decide +kernel
theorem d_Mo_byteAt_38 : decode b_Mo_byteAt 38 = .ok (.iload_n 1, 1) := by decide +kernel
theorem d_Mo_byteAt_39 : decode b_Mo_byteAt 39 = .ok (.iaload, 1) := by decide +kernel
theorem d_Mo_byteAt_40 : decode b_Mo_byteAt 40 = .ok (.ireturn, 1) := by decide +kernel
theorem d_Mo_feed_0 : decode b_Mo_feed 0 = .ok (.aload_n 0, 1) := by decide +kernel
theorem d_Mo_feed_1 : decode b_Mo_feed 1 = .ok (.iload_n 1, 1) := by decide +kernel
theorem d_Mo_feed_2 : decode b_Mo_feed 2 = .ok (.iconst 0, 1) := by decide +kernel
theorem d_Mo_feed_3 : decode b_Mo_feed 3 = .ok (.sipush 255, 3) := by decide +kernel
theorem d_Mo_feed_6 : decode b_Mo_feed 6 = .ok (.invokestatic 104, 3) := by decide +kernel
theorem d_Mo_feed_9 : decode b_Mo_feed 9 = .ok (.ifCond .ne 7, 3) := by decide +kernel
theorem d_Mo_feed_12 : decode b_Mo_feed 12 = .ok (.iconst 1, 1) := by decide +kernel
theorem d_Mo_feed_13 : decode b_Mo_feed 13 = .ok (.goto 18, 3) := by decide +kernel
theorem d_Mo_feed_16 : decode b_Mo_feed 16 = .ok (.aload_n 0, 1) := by decide +kernel
theorem d_Mo_feed_17 : decode b_Mo_feed 17 = .ok (.getfield 197, 3) := by decide +kernel
theorem d_Mo_feed_20 : decode b_Mo_feed 20 = .ok (.sipush 2000, 3) := by decide +kernel
theorem d_Mo_feed_23 : decode b_Mo_feed 23 = .ok (.if_icmp .ne 7, 3) := by decide +kernel
theorem d_Mo_feed_26 : decode b_Mo_feed 26 = .ok (.iconst 2, 1) := by decide +kernel
theorem d_Mo_feed_27 : decode b_Mo_feed 27 = .ok (.goto 4, 3) := by decide +kernel
theorem d_Mo_feed_30 : decode b_Mo_feed 30 = .ok (.iconst 0, 1) := by decide +kernel
theorem d_Mo_feed_31 : decode b_Mo_feed 31 = .ok (.putfield 101, 3) := by decide +kernel
theorem d_Mo_feed_34 : decode b_Mo_feed 34 = .ok (.aload_n 0, 1) := by decide +kernel
theorem d_Mo_feed_35 : decode b_Mo_feed 35 = .ok (.getfield 101, 3) := by decide +kernel
theorem d_Mo_feed_38 : decode b_Mo_feed 38 = .ok (.ifCond .le 5, 3) := by decide +kernel
theorem d_Mo_feed_41 : decode b_Mo_feed 41 = .ok (.iconst 0, 1) := by decide +kernel
theorem d_Mo_feed_42 : decode b_Mo_feed 42 = .ok (.ireturn, 1) := by decide +kernel
theorem d_Mo_feed_43 : decode b_Mo_feed 43 = .ok (.aload_n 0, 1) := by decide +kernel
theorem d_Mo_feed_44 : decode b_Mo_feed 44 = .ok (.getfield 66, 3) := by decide +kernel
theorem d_Mo_feed_47 : decode b_Mo_feed 47 = .ok (.aload_n 0, 1) := by decide +kernel
theorem d_Mo_feed_48 : decode b_Mo_feed 48 = .ok (.getfield 197, 3) := by decide +kernel
theorem d_Mo_feed_51 : decode b_Mo_feed 51 = .ok (.iload_n 1, 1) := by decide +kernel
theorem d_Mo_feed_52 : decode b_Mo_feed 52 = .ok (.iastore, 1) := by decide +kernel
theorem d_Mo_feed_53 : decode b_Mo_feed 53 = .ok (.aload_n 0, 1) := by decide +kernel
theorem d_Mo_feed_54 : decode b_Mo_feed 54 = .ok (.dup, 1) := by decide +kernel
theorem d_Mo_feed_55 : decode b_Mo_feed 55 = .ok (.getfield 197, 3) := by decide +kernel
theorem d_Mo_feed_58 : decode b_Mo_feed 58 = .ok (.iconst 1, 1) := by decide +kernel
theorem d_Mo_feed_59 : decode b_Mo_feed 59 = .ok (.iadd, 1) := by decide +kernel
theorem d_Mo_feed_60 : decode b_Mo_feed 60 = .ok (.putfield 197, 3) := by decide +kernel
theorem d_Mo_feed_63 : decode b_Mo_feed 63 = .ok (.aload_n 0, 1) := by decide +kernel
theorem d_Mo_feed_64 : decode b_Mo_feed 64 = .ok (.getfield 197, 3) := by decide +kernel
theorem d_Mo_feed_67 : decode b_Mo_feed 67 = .ok (.ireturn, 1) := by decide +kernel
theorem d_Mo_pass_0 : decode b_Mo_pass 0 = .ok (.aload_n 0, 1) := by decide +kernel
theorem d_Mo_pass_1 : decode b_Mo_pass 1 = .ok (.aload_n 0, 1) := by decide +kernel
theorem d_Mo_pass_2 : decode b_Mo_pass 2 = .ok (.getfield 197, 3) := by decide +kernel
theorem d_Mo_pass_5 : decode b_Mo_pass 5 = .ok (.aload_n 0, 1) := by decide +kernel
theorem d_Mo_pass_6 : decode b_Mo_pass 6 = .ok (.getfield 194, 3) := by decide +kernel
theorem d_Mo_pass_9 : decode b_Mo_pass 9 = .ok (.iadd, 1) := by decide +kernel
theorem d_Mo_pass_10 : decode b_Mo_pass 10 = .ok (.sipush 2000, 3) := by decide +kernel
theorem d_Mo_pass_13 : decode b_Mo_pass 13 = .ok (.if_icmp .le 7, 3) := by decide +kernel
theorem d_Mo_pass_16 : decode b_Mo_pass 16 = .ok (.iconst 1, 1) := by decide +kernel
theorem d_Mo_pass_17 : decode b_Mo_pass 17 = .ok (.goto 4, 3) := by decide +kernel
theorem d_Mo_pass_20 : decode b_Mo_pass 20 = .ok (.iconst 0, 1) := by decide +kernel
theorem d_Mo_pass_21 : decode b_Mo_pass 21 = .ok (.putfield 101, 3) := by decide +kernel
theorem d_Mo_pass_24 : decode b_Mo_pass 24 = .ok (.aload_n 0, 1) := by decide +kernel
theorem d_Mo_pass_25 : decode b_Mo_pass 25 = .ok (.getfield 101, 3) := by decide +kernel
theorem d_Mo_pass_28 : decode b_Mo_pass 28 = .ok (.ifCond .le 5, 3) := by decide +kernel
theorem d_Mo_pass_31 : decode b_Mo_pass 31 = .ok (.iconst 0, 1) := by decide +kernel
theorem d_Mo_pass_32 : decode b_Mo_pass 32 = .ok (.ireturn, 1) := by decide +kernel
theorem d_Mo_pass_33 : decode b_Mo_pass 33 = .ok (.iconst 0, 1) := by decide +kernel
theorem d_Mo_pass_34 : decode b_Mo_pass 34 = .ok (.istore_n 1, 1) := by decide +kernel
theorem d_Mo_pass_35 : decode b_Mo_pass 35 = .ok (.iload_n 1, 1) := by decide +kernel
theorem d_Mo_pass_36 : decode b_Mo_pass 36 = .ok (.aload_n 0, 1) := by decide +kernel
theorem d_Mo_pass_37 : decode b_Mo_pass 37 = .ok (.getfield 194, 3) := by decide +kernel
theorem d_Mo_pass_40 : decode b_Mo_pass 40 = .ok (.if_icmp .ge 26, 3) := by decide +kernel
theorem d_Mo_pass_43 : decode b_Mo_pass 43 = .ok (.aload_n 0, 1) := by decide +kernel
theorem d_Mo_pass_44 : decode b_Mo_pass 44 = .ok (.getfield 66, 3) := by decide +kernel
theorem d_Mo_pass_47 : decode b_Mo_pass 47 = .ok (.aload_n 0, 1) := by decide +kernel
theorem d_Mo_pass_48 : decode b_Mo_pass 48 = .ok (.getfield 197, 3) := by decide +kernel
theorem d_Mo_pass_51 : decode b_Mo_pass 51 = .ok (.iload_n 1, 1) := by decide +kernel
theorem d_Mo_pass_52 : decode b_Mo_pass 52 = .ok (.iadd, 1) := by decide +kernel
theorem d_Mo_pass_53 : decode b_Mo_pass 53 = .ok (.aload_n 0, 1) := by decide +kernel
theorem d_Mo_pass_54 : decode b_Mo_pass 54 = .ok (.getfield 42, 3) := by decide +kernel
theorem d_Mo_pass_57 : decode b_Mo_pass 57 = .ok (.iload_n 1, 1) := by decide +kernel
theorem d_Mo_pass_58 : decode b_Mo_pass 58 = .ok (.iaload, 1) := by decide +kernel
theorem d_Mo_pass_59 : decode b_Mo_pass 59 = .ok (.iastore, 1) := by decide +kernel
theorem d_Mo_pass_60 : decode b_Mo_pass 60 = .ok (.iinc 1 1, 3) := by decide +kernel
theorem d_Mo_pass_63 : decode b_Mo_pass 63 = .ok (.goto (-28), 3) := by decide +kernel
theorem d_Mo_pass_66 : decode b_Mo_pass 66 = .ok (.aload_n 0, 1) := by decide +kernel
theorem d_Mo_pass_67 : decode b_Mo_pass 67 = .ok (.aload_n 0, 1) := by decide +kernel
theorem d_Mo_pass_68 : decode b_Mo_pass 68 = .ok (.getfield 197, 3) := by decide +kernel
theorem d_Mo_pass_71 : decode b_Mo_pass 71 = .ok (.aload_n 0, 1) := by decide +kernel
theorem d_Mo_pass_72 : decode b_Mo_pass 72 = .ok (.getfield 194, 3) := by decide +kernel
theorem d_Mo_pass_75 : decode b_Mo_pass 75 = .ok (.iadd, 1) := by decide +kernel
theorem d_Mo_pass_76 : decode b_Mo_pass 76 = .ok (.putfield 197, 3) := by decide +kernel
theorem d_Mo_pass_79 : decode b_Mo_pass 79 = .ok (.aload_n 0, 1) := by decide +kernel
theorem d_Mo_pass_80 : decode b_Mo_pass 80 = .ok (.getfield 197, 3) := by decide +kernel
theorem d_Mo_pass_83 : decode b_Mo_pass 83 = .ok (.ireturn, 1) := by decide +kernel
theorem d_Mo_refuse_0 : decode b_Mo_refuse 0 = .ok (.aload_n 0, 1) := by decide +kernel
theorem d_Mo_refuse_1 : decode b_Mo_refuse 1 = .ok (.aload_n 0, 1) := by decide +kernel
theorem d_Mo_refuse_2 : decode b_Mo_refuse 2 = .ok (.getfield 200, 3) := by decide +kernel
theorem d_Mo_refuse_5 : decode b_Mo_refuse 5 = .ok (.ifCond .ne 7, 3) := by decide +kernel
theorem d_Mo_refuse_8 : decode b_Mo_refuse 8 = .ok (.iload_n 1, 1) := by decide +kernel
theorem d_Mo_refuse_9 : decode b_Mo_refuse 9 = .ok (.goto 7, 3) := by decide +kernel
theorem d_Mo_refuse_12 : decode b_Mo_refuse 12 = .ok (.aload_n 0, 1) := by decide +kernel
theorem d_Mo_refuse_13 : decode b_Mo_refuse 13 = .ok (.getfield 200, 3) := by decide +kernel
theorem d_Mo_refuse_16 : decode b_Mo_refuse 16 = .ok (.putfield 200, 3) := by decide +kernel
theorem d_Mo_refuse_19 : decode b_Mo_refuse 19 = .ok (.return_, 1) := by decide +kernel
theorem d_Mo_next_0 : decode b_Mo_next 0 = .ok (.aload_n 0, 1) := by decide +kernel
theorem d_Mo_next_1 : decode b_Mo_next 1 = .ok (.getfield 200, 3) := by decide +kernel
theorem d_Mo_next_4 : decode b_Mo_next 4 = .ok (.ifCond .ne 22, 3) := by decide +kernel
theorem d_Mo_next_7 : decode b_Mo_next 7 = .ok (.aload_n 0, 1) := by decide +kernel
theorem d_Mo_next_8 : decode b_Mo_next 8 = .ok (.getfield 203, 3) := by decide +kernel
theorem d_Mo_next_11 : decode b_Mo_next 11 = .ok (.bipush 8, 2) := by decide +kernel
theorem d_Mo_next_13 : decode b_Mo_next 13 = .ok (.aload_n 0, 1) := by decide +kernel
theorem d_Mo_next_14 : decode b_Mo_next 14 = .ok (.getfield 197, 3) := by decide +kernel
theorem d_Mo_next_17 : decode b_Mo_next 17 = .ok (.imul, 1) := by decide +kernel
theorem d_Mo_next_18 : decode b_Mo_next 18 = .ok (.if_icmp .ne 8, 3) := by decide +kernel
theorem d_Mo_next_21 : decode b_Mo_next 21 = .ok (.aload_n 0, 1) := by decide +kernel
theorem d_Mo_next_22 : decode b_Mo_next 22 = .ok (.iconst 1, 1) := by decide +kernel
theorem d_Mo_next_23 : decode b_Mo_next 23 = .ok (.invokevirtual 206, 3) := by decide +kernel
theorem d_Mo_next_26 : decode b_Mo_next 26 = .ok (.aload_n 0, 1) := by decide +kernel
theorem d_Mo_next_27 : decode b_Mo_next 27 = .ok (.getfield 200, 3) := by decide +kernel
theorem d_Mo_next_30 : decode b_Mo_next 30 = .ok (.ifCond .le 5, 3) := by decide +kernel
theorem d_Mo_next_33 : decode b_Mo_next 33 = .ok (.iconst 0, 1) := by decide +kernel
theorem d_Mo_next_34 : decode b_Mo_next 34 = .ok (.ireturn, 1) := by decide +kernel
theorem d_Mo_next_35 : decode b_Mo_next 35 = .ok (.aload_n 0, 1) := by decide +kernel
theorem d_Mo_next_36 : decode b_Mo_next 36 = .ok (.getfield 66, 3) := by decide +kernel
theorem d_Mo_next_39 : decode b_Mo_next 39 = .ok (.aload_n 0, 1) := by decide +kernel
theorem d_Mo_next_40 : decode b_Mo_next 40 = .ok (.getfield 203, 3) := by decide +kernel
theorem d_Mo_next_43 : decode b_Mo_next 43 = .ok (.bipush 8, 2) := by decide +kernel
theorem d_Mo_next_45 : decode b_Mo_next 45 = .ok (.idiv, 1) := by decide +kernel
theorem d_Mo_next_46 : decode b_Mo_next 46 = .ok (.iaload, 1) := by decide +kernel
theorem d_Mo_next_47 : decode b_Mo_next 47 = .ok (.bipush 7, 2) := by decide +kernel
theorem d_Mo_next_49 : decode b_Mo_next 49 = .ok (.aload_n 0, 1) := by decide +kernel
theorem d_Mo_next_50 : decode b_Mo_next 50 = .ok (.getfield 203, 3) := by decide +kernel
theorem d_Mo_next_53 : decode b_Mo_next 53 = .ok (.bipush 8, 2) := by decide +kernel
theorem d_Mo_next_55 : decode b_Mo_next 55 = .ok (.irem, 1) := by decide +kernel
theorem d_Mo_next_56 : decode b_Mo_next 56 = .ok (.isub, 1) := by decide +kernel
theorem d_Mo_next_57 : decode b_Mo_next 57 = .ok (.ishr, 1) := by decide +kernel
theorem d_Mo_next_58 : decode b_Mo_next 58 = .ok (.iconst 1, 1) := by decide +kernel
theorem d_Mo_next_59 : decode b_Mo_next 59 = .ok (.iand, 1) := by decide +kernel
theorem d_Mo_next_60 : decode b_Mo_next 60 = .ok (.istore_n 1, 1) := by decide +kernel
theorem d_Mo_next_61 : decode b_Mo_next 61 = .ok (.aload_n 0, 1) := by decide +kernel
theorem d_Mo_next_62 : decode b_Mo_next 62 = .ok (.dup, 1) := by decide +kernel
theorem d_Mo_next_63 : decode b_Mo_next 63 = .ok (.getfield 203, 3) := by decide +kernel
theorem d_Mo_next_66 : decode b_Mo_next 66 = .ok (.iconst 1, 1) := by decide +kernel
theorem d_Mo_next_67 : decode b_Mo_next 67 = .ok (.iadd, 1) := by decide +kernel
theorem d_Mo_next_68 : decode b_Mo_next 68 = .ok (.putfield 203, 3) := by decide +kernel
theorem d_Mo_next_71 : decode b_Mo_next 71 = .ok (.iload_n 1, 1) := by decide +kernel
theorem d_Mo_next_72 : decode b_Mo_next 72 = .ok (.ireturn, 1) := by decide +kernel
theorem d_Mo_nextLow_0 : decode b_Mo_nextLow 0 = .ok (.iconst 0, 1) := by decide +kernel
theorem d_Mo_nextLow_1 : decode b_Mo_nextLow 1 = .ok (.istore_n 2, 1) := by decide +kernel
theorem d_Mo_nextLow_2 : decode b_Mo_nextLow 2 = .ok (.iconst 0, 1) := by decide +kernel
theorem d_Mo_nextLow_3 : decode b_Mo_nextLow 3 = .ok (.istore_n 3, 1) := by decide +kernel
theorem d_Mo_nextLow_4 : decode b_Mo_nextLow 4 = .ok (.iload_n 3, 1) := by decide +kernel
theorem d_Mo_nextLow_5 : decode b_Mo_nextLow 5 = .ok (.iload_n 1, 1) := by decide +kernel
theorem d_Mo_nextLow_6 : decode b_Mo_nextLow 6 = .ok (.if_icmp .ge 18, 3) := by decide +kernel
theorem d_Mo_nextLow_9 : decode b_Mo_nextLow 9 = .ok (.iconst 2, 1) := by decide +kernel
theorem d_Mo_nextLow_10 : decode b_Mo_nextLow 10 = .ok (.iload_n 2, 1) := by decide +kernel
theorem d_Mo_nextLow_11 : decode b_Mo_nextLow 11 = .ok (.imul, 1) := by decide +kernel
theorem d_Mo_nextLow_12 : decode b_Mo_nextLow 12 = .ok (.aload_n 0, 1) := by decide +kernel
theorem d_Mo_nextLow_13 : decode b_Mo_nextLow 13 = .ok (.invokevirtual 209, 3) := by decide +kernel
theorem d_Mo_nextLow_16 : decode b_Mo_nextLow 16 = .ok (.iadd, 1) := by decide +kernel
theorem d_Mo_nextLow_17 : decode b_Mo_nextLow 17 = .ok (.istore_n 2, 1) := by decide +kernel
theorem d_Mo_nextLow_18 : decode b_Mo_nextLow 18 = .ok (.iinc 3 1, 3) := by decide +kernel
theorem d_Mo_nextLow_21 : decode b_Mo_nextLow 21 = .ok (.goto (-17), 3) := by decide +kernel
theorem d_Mo_nextLow_24 : decode b_Mo_nextLow 24 = .ok (.iload_n 2, 1) := by decide +kernel
theorem d_Mo_nextLow_25 : decode b_Mo_nextLow 25 = .ok (.ireturn, 1) := by decide +kernel
theorem d_Mo_nextNumber_0 : decode b_Mo_nextNumber 0 = .ok (.iconst 0, 1) := by decide +kernel
theorem d_Mo_nextNumber_1 : decode b_Mo_nextNumber 1 = .ok (.istore_n 1, 1) := by decide +kernel
theorem d_Mo_nextNumber_2 : decode b_Mo_nextNumber 2 = .ok (.aload_n 0, 1) := by decide +kernel
theorem d_Mo_nextNumber_3 : decode b_Mo_nextNumber 3 = .ok (.invokevirtual 209, 3) := by decide +kernel
theorem d_Mo_nextNumber_6 : decode b_Mo_nextNumber 6 = .ok (.istore_n 2, 1) := by decide +kernel
theorem d_Mo_nextNumber_7 : decode b_Mo_nextNumber 7 = .ok (.aload_n 0, 1) := by decide +kernel
theorem d_Mo_nextNumber_8 : decode b_Mo_nextNumber 8 = .ok (.getfield 200, 3) := by decide +kernel
theorem d_Mo_nextNumber_11 : decode b_Mo_nextNumber 11 = .ok (.ifCond .ne 33, 3) := by decide +kernel
theorem d_Mo_nextNumber_14 : decode b_Mo_nextNumber 14 = .ok (.iload_n 2, 1) := by decide +kernel
theorem d_Mo_nextNumber_15 : decode b_Mo_nextNumber 15 = .ok (.ifCond .ne 29, 3) := by decide +kernel
theorem d_Mo_nextNumber_18 : decode b_Mo_nextNumber 18 = .ok (.iinc 1 1, 3) := by decide +kernel
theorem d_Mo_nextNumber_21 : decode b_Mo_nextNumber 21 = .ok (.iload_n 1, 1) := by decide +kernel
theorem d_Mo_nextNumber_22 : decode b_Mo_nextNumber 22 = .ok (.bipush 12, 2) := by decide +kernel
theorem d_Mo_nextNumber_24 : decode b_Mo_nextNumber 24 = .ok (.if_icmp .le 12, 3) := by decide +kernel
theorem d_Mo_nextNumber_27 : decode b_Mo_nextNumber 27 = .ok (.aload_n 0, 1) := by decide +kernel
theorem d_Mo_nextNumber_28 : decode b_Mo_nextNumber 28 = .ok (.bipush 8, 2) := by decide +kernel
theorem d_Mo_nextNumber_30 : decode b_Mo_nextNumber 30 = .ok (.invokevirtual 206, 3) := by decide +kernel
theorem d_Mo_nextNumber_33 : decode b_Mo_nextNumber 33 = .ok (.goto (-26), 3) := by decide +kernel
theorem d_Mo_nextNumber_36 : decode b_Mo_nextNumber 36 = .ok (.aload_n 0, 1) := by decide +kernel
theorem d_Mo_nextNumber_37 : decode b_Mo_nextNumber 37 = .ok (.invokevirtual 209, 3) := by decide +kernel
theorem d_Mo_nextNumber_40 : decode b_Mo_nextNumber 40 = .ok (.istore_n 2, 1) := by decide +kernel
theorem d_Mo_nextNumber_41 : decode b_Mo_nextNumber 41 = .ok (.goto (-34), 3) := by decide +kernel
theorem d_Mo_nextNumber_44 : decode b_Mo_nextNumber 44 = .ok (.iconst 1, 1) := by decide +kernel
theorem d_Mo_nextNumber_45 : decode b_Mo_nextNumber 45 = .ok (.iload_n 1, 1) := by decide +kernel
theorem d_Mo_nextNumber_46 : decode b_Mo_nextNumber 46 = .ok (.ishl, 1) := by decide +kernel
theorem d_Mo_nextNumber_47 : decode b_Mo_nextNumber 47 = .ok (.aload_n 0, 1) := by decide +kernel
theorem d_Mo_nextNumber_48 : decode b_Mo_nextNumber 48 = .ok (.iload_n 1, 1) := by decide +kernel
theorem d_Mo_nextNumber_49 : decode b_Mo_nextNumber 49 = .ok (.invokevirtual 213, 3) := by decide +kernel
theorem d_Mo_nextNumber_52 : decode b_Mo_nextNumber 52 = .ok (.iadd, 1) := by decide +kernel
theorem d_Mo_nextNumber_53 : decode b_Mo_nextNumber 53 = .ok (.iconst 1, 1) := by decide +kernel
theorem d_Mo_nextNumber_54 : decode b_Mo_nextNumber 54 = .ok (.isub, 1) := by decide +kernel
theorem d_Mo_nextNumber_55 : decode b_Mo_nextNumber 55 = .ok (.istore_n 3, 1) := by decide +kernel
theorem d_Mo_nextNumber_56 : decode b_Mo_nextNumber 56 = .ok (.aload_n 0, 1) := by decide +kernel
theorem d_Mo_nextNumber_57 : decode b_Mo_nextNumber 57 = .ok (.getfield 200, 3) := by decide +kernel
theorem d_Mo_nextNumber_60 : decode b_Mo_nextNumber 60 = .ok (.ifCond .le 7, 3) := by decide +kernel
theorem d_Mo_nextNumber_63 : decode b_Mo_nextNumber 63 = .ok (.iconst 0, 1) := by decide +kernel
theorem d_Mo_nextNumber_64 : decode b_Mo_nextNumber 64 = .ok (.goto 4, 3) := by decide +kernel
theorem d_Mo_nextNumber_67 : decode b_Mo_nextNumber 67 = .ok (.iload_n 3, 1) := by decide +kernel
theorem d_Mo_nextNumber_68 : decode b_Mo_nextNumber 68 = .ok (.ireturn, 1) := by decide +kernel
theorem d_Mo_nextSigned_0 : decode b_Mo_nextSigned 0 = .ok (.aload_n 0, 1) := by decide +kernel
theorem d_Mo_nextSigned_1 : decode b_Mo_nextSigned 1 = .ok (.invokevirtual 216, 3) := by decide +kernel
theorem d_Mo_nextSigned_4 : decode b_Mo_nextSigned 4 = .ok (.istore_n 1, 1) := by decide +kernel
theorem d_Mo_nextSigned_5 : decode b_Mo_nextSigned 5 = .ok (.iload_n 1, 1) := by decide +kernel
theorem d_Mo_nextSigned_6 : decode b_Mo_nextSigned 6 = .ok (.iconst 2, 1) := by decide +kernel
theorem d_Mo_nextSigned_7 : decode b_Mo_nextSigned 7 = .ok (.irem, 1) := by decide +kernel
theorem d_Mo_nextSigned_8 : decode b_Mo_nextSigned 8 = .ok (.ifCond .ne 9, 3) := by decide +kernel
theorem d_Mo_nextSigned_11 : decode b_Mo_nextSigned 11 = .ok (.iload_n 1, 1) := by decide +kernel
theorem d_Mo_nextSigned_12 : decode b_Mo_nextSigned 12 = .ok (.iconst 2, 1) := by decide +kernel
theorem d_Mo_nextSigned_13 : decode b_Mo_nextSigned 13 = .ok (.idiv, 1) := by decide +kernel
theorem d_Mo_nextSigned_14 : decode b_Mo_nextSigned 14 = .ok (.goto 9, 3) := by decide +kernel
theorem d_Mo_nextSigned_17 : decode b_Mo_nextSigned 17 = .ok (.iload_n 1, 1) := by decide +kernel
theorem d_Mo_nextSigned_18 : decode b_Mo_nextSigned 18 = .ok (.iconst 2, 1) := by decide +kernel
theorem d_Mo_nextSigned_19 : decode b_Mo_nextSigned 19 = .ok (.idiv, 1) := by decide +kernel
theorem d_Mo_nextSigned_20 : decode b_Mo_nextSigned 20 = .ok (.ineg, 1) := by decide +kernel
theorem d_Mo_nextSigned_21 : decode b_Mo_nextSigned 21 = .ok (.iconst 1, 1) := by decide +kernel
theorem d_Mo_nextSigned_22 : decode b_Mo_nextSigned 22 = .ok (.isub, 1) := by decide +kernel
theorem d_Mo_nextSigned_23 : decode b_Mo_nextSigned 23 = .ok (.ireturn, 1) := by decide +kernel
theorem d_Mo_readCodes_0 : decode b_Mo_readCodes 0 = .ok (.iconst 0, 1) := by decide +kernel
theorem d_Mo_readCodes_1 : decode b_Mo_readCodes 1 = .ok (.istore_n 2, 1) := by decide +kernel
theorem d_Mo_readCodes_2 : decode b_Mo_readCodes 2 = .ok (.iconst 0, 1) := by decide +kernel
theorem d_Mo_readCodes_3 : decode b_Mo_readCodes 3 = .ok (.istore_n 3, 1) := by decide +kernel
theorem d_Mo_readCodes_4 : decode b_Mo_readCodes 4 = .ok (.iconst 0, 1) := by decide +kernel
theorem d_Mo_readCodes_5 : decode b_Mo_readCodes 5 = .ok (.istore 4, 2) := by decide +kernel
theorem d_Mo_readCodes_7 : decode b_Mo_readCodes 7 = .ok (.iload 4, 2) := by decide +kernel
theorem d_Mo_readCodes_9 : decode b_Mo_readCodes 9 = .ok (.aload_n 0, 1) := by decide +kernel
theorem d_Mo_readCodes_10 : decode b_Mo_readCodes 10 = .ok (.getfield 108, 3) := by decide +kernel
theorem d_Mo_readCodes_13 : decode b_Mo_readCodes 13 = .ok (.if_icmp .ge 66, 3) := by decide +kernel
theorem d_Mo_readCodes_16 : decode b_Mo_readCodes 16 = .ok (.aload_n 0, 1) := by decide +kernel
theorem d_Mo_readCodes_17 : decode b_Mo_readCodes 17 = .ok (.getfield 48, 3) := by decide +kernel
theorem d_Mo_readCodes_20 : decode b_Mo_readCodes 20 = .ok (.iload 4, 2) := by decide +kernel
theorem d_Mo_readCodes_22 : decode b_Mo_readCodes 22 = .ok (.aload_n 0, 1) := by decide +kernel
theorem d_Mo_readCodes_23 : decode b_Mo_readCodes 23 = .ok (.iconst 4, 1) := by decide +kernel
theorem d_Mo_readCodes_24 : decode b_Mo_readCodes 24 = .ok (.invokevirtual 213, 3) := by decide +kernel
theorem d_Mo_readCodes_27 : decode b_Mo_readCodes 27 = .ok (.iastore, 1) := by decide +kernel
theorem d_Mo_readCodes_28 : decode b_Mo_readCodes 28 = .ok (.aload_n 0, 1) := by decide +kernel
theorem d_Mo_readCodes_29 : decode b_Mo_readCodes 29 = .ok (.getfield 48, 3) := by decide +kernel
theorem d_Mo_readCodes_32 : decode b_Mo_readCodes 32 = .ok (.iload 4, 2) := by decide +kernel
theorem d_Mo_readCodes_34 : decode b_Mo_readCodes 34 = .ok (.iaload, 1) := by decide +kernel
theorem d_Mo_readCodes_35 : decode b_Mo_readCodes 35 = .ok (.ifCond .le 9, 3) := by decide +kernel
theorem d_Mo_readCodes_38 : decode b_Mo_readCodes 38 = .ok (.iload_n 2, 1) := by decide +kernel
theorem d_Mo_readCodes_39 : decode b_Mo_readCodes 39 = .ok (.iconst 1, 1) := by decide +kernel
theorem d_Mo_readCodes_40 : decode b_Mo_readCodes 40 = .ok (.iadd, 1) := by decide +kernel
theorem d_Mo_readCodes_41 : decode b_Mo_readCodes 41 = .ok (.goto 4, 3) := by decide +kernel
theorem d_Mo_readCodes_44 : decode b_Mo_readCodes 44 = .ok (.iload_n 2, 1) := by decide +kernel
theorem d_Mo_readCodes_45 : decode b_Mo_readCodes 45 = .ok (.istore_n 2, 1) := by decide +kernel
theorem d_Mo_readCodes_46 : decode b_Mo_readCodes 46 = .ok (.aload_n 0, 1) := by decide +kernel
theorem d_Mo_readCodes_47 : decode b_Mo_readCodes 47 = .ok (.getfield 48, 3) := by decide +kernel
theorem d_Mo_readCodes_50 : decode b_Mo_readCodes 50 = .ok (.iload 4, 2) := by decide +kernel
theorem d_Mo_readCodes_52 : decode b_Mo_readCodes 52 = .ok (.iaload, 1) := by decide +kernel
theorem d_Mo_readCodes_53 : decode b_Mo_readCodes 53 = .ok (.ifCond .le 18, 3) := by decide +kernel
theorem d_Mo_readCodes_56 : decode b_Mo_readCodes 56 = .ok (.iload_n 3, 1) := by decide +kernel
theorem d_Mo_readCodes_57 : decode b_Mo_readCodes 57 = .ok (.ldc 219, 2) := by decide +kernel
theorem d_Mo_readCodes_59 : decode b_Mo_readCodes 59 = .ok (.aload_n 0, 1) := by decide +kernel
theorem d_Mo_readCodes_60 : decode b_Mo_readCodes 60 = .ok (.getfield 48, 3) := by decide +kernel
theorem d_Mo_readCodes_63 : decode b_Mo_readCodes 63 = .ok (.iload 4, 2) := by decide +kernel
theorem d_Mo_readCodes_65 : decode b_Mo_readCodes 65 = .ok (.iaload, 1) := by decide +kernel
theorem d_Mo_readCodes_66 : decode b_Mo_readCodes 66 = .ok (.ishr, 1) := by decide +kernel
theorem d_Mo_readCodes_67 : decode b_Mo_readCodes 67 = .ok (.iadd, 1) := by decide +kernel
theorem d_Mo_readCodes_68 : decode b_Mo_readCodes 68 = .ok (.goto 4, 3) := by decide +kernel
theorem d_Mo_readCodes_71 : decode b_Mo_readCodes 71 = .ok (.iload_n 3, 1) := by decide +kernel
theorem d_Mo_readCodes_72 : decode b_Mo_readCodes 72 = .ok (.istore_n 3, 1) := by decide +kernel
theorem d_Mo_readCodes_73 : decode b_Mo_readCodes 73 = .ok (.iinc 4 1, 3) := by decide +kernel
theorem d_Mo_readCodes_76 : decode b_Mo_readCodes 76 = .ok (.goto (-69), 3) := by decide +kernel
theorem d_Mo_readCodes_79 : decode b_Mo_readCodes 79 = .ok (.iload_n 3, 1) := by decide +kernel
theorem d_Mo_readCodes_80 : decode b_Mo_readCodes 80 = .ok (.ldc 219, 2) := by decide +kernel
theorem d_Mo_readCodes_82 : decode b_Mo_readCodes 82 = .ok (.if_icmp .eq 23, 3) := by decide +kernel
theorem d_Mo_readCodes_85 : decode b_Mo_readCodes 85 = .ok (.iload_n 2, 1) := by decide +kernel
theorem d_Mo_readCodes_86 : decode b_Mo_readCodes 86 = .ok (.iconst 1, 1) := by decide +kernel
theorem d_Mo_readCodes_87 : decode b_Mo_readCodes 87 = .ok (.if_icmp .ne 10, 3) := by decide +kernel
theorem d_Mo_readCodes_90 : decode b_Mo_readCodes 90 = .ok (.iload_n 3, 1) := by decide +kernel
theorem d_Mo_readCodes_91 : decode b_Mo_readCodes 91 = .ok (.sipush 16384, 3) := by decide +kernel
theorem d_Mo_readCodes_94 : decode b_Mo_readCodes 94 = .ok (.if_icmp .eq 11, 3) := by decide +kernel
theorem d_Mo_readCodes_97 : decode b_Mo_readCodes 97 = .ok (.iload_n 2, 1) := by decide +kernel
theorem d_Mo_readCodes_98 : decode b_Mo_readCodes 98 = .ok (.ifCond .ne 11, 3) := by decide +kernel
theorem d_Mo_readCodes_101 : decode b_Mo_readCodes 101 = .ok (.iload_n 1, 1) := by decide +kernel
theorem d_Mo_readCodes_102 : decode b_Mo_readCodes 102 = .ok (.ifCond .ne 7, 3) := by decide +kernel
theorem d_Mo_readCodes_105 : decode b_Mo_readCodes 105 = .ok (.iconst 1, 1) := by decide +kernel
theorem d_Mo_readCodes_106 : decode b_Mo_readCodes 106 = .ok (.goto 4, 3) := by decide +kernel
theorem d_Mo_readCodes_109 : decode b_Mo_readCodes 109 = .ok (.iconst 0, 1) := by decide +kernel
theorem d_Mo_readCodes_110 : decode b_Mo_readCodes 110 = .ok (.istore 4, 2) := by decide +kernel
theorem d_Mo_readCodes_112 : decode b_Mo_readCodes 112 = .ok (.aload_n 0, 1) := by decide +kernel
theorem d_Mo_readCodes_113 : decode b_Mo_readCodes 113 = .ok (.getfield 200, 3) := by decide +kernel
theorem d_Mo_readCodes_116 : decode b_Mo_readCodes 116 = .ok (.ifCond .ne 13, 3) := by decide +kernel
theorem d_Mo_readCodes_119 : decode b_Mo_readCodes 119 = .ok (.iload 4, 2) := by decide +kernel
theorem d_Mo_readCodes_121 : decode b_Mo_readCodes 121 = .ok (.ifCond .ne 8, 3) := by decide +kernel
theorem d_Mo_readCodes_124 : decode b_Mo_readCodes 124 = .ok (.aload_n 0, 1) := by decide +kernel
theorem d_Mo_readCodes_125 : decode b_Mo_readCodes 125 = .ok (.iconst 4, 1) := by decide +kernel
theorem d_Mo_readCodes_126 : decode b_Mo_readCodes 126 = .ok (.invokevirtual 206, 3) := by decide +kernel
theorem d_Mo_readCodes_129 : decode b_Mo_readCodes 129 = .ok (.aload_n 0, 1) := by decide +kernel
theorem d_Mo_readCodes_130 : decode b_Mo_readCodes 130 = .ok (.invokevirtual 172, 3) := by decide +kernel
theorem d_Mo_readCodes_133 : decode b_Mo_readCodes 133 = .ok (.return_, 1) := by decide +kernel
theorem d_Mo_nextName_0 : decode b_Mo_nextName 0 = .ok (.aload_n 0, 1) := by decide +kernel
theorem d_Mo_nextName_1 : decode b_Mo_nextName 1 = .ok (.getfield 98, 3) := by decide +kernel
theorem d_Mo_nextName_4 : decode b_Mo_nextName 4 = .ok (.iconst 1, 1) := by decide +kernel
theorem d_Mo_nextName_5 : decode b_Mo_nextName 5 = .ok (.if_icmp .ne 49, 3) := by decide +kernel
theorem d_Mo_nextName_8 : decode b_Mo_nextName 8 = .ok (.aload_n 0, 1) := by decide +kernel
theorem d_Mo_nextName_9 : decode b_Mo_nextName 9 = .ok (.invokevirtual 216, 3) := by decide +kernel
theorem d_Mo_nextName_12 : decode b_Mo_nextName 12 = .ok (.istore_n 1, 1) := by decide +kernel
theorem d_Mo_nextName_13 : decode b_Mo_nextName 13 = .ok (.aload_n 0, 1) := by decide +kernel
theorem d_Mo_nextName_14 : decode b_Mo_nextName 14 = .ok (.getfield 200, 3) := by decide +kernel
theorem d_Mo_nextName_17 : decode b_Mo_nextName 17 = .ok (.ifCond .ne 16, 3) := by decide +kernel
theorem d_Mo_nextName_20 : decode b_Mo_nextName 20 = .ok (.iload_n 1, 1) := by decide +kernel
theorem d_Mo_nextName_21 : decode b_Mo_nextName 21 = .ok (.aload_n 0, 1) := by decide +kernel
theorem d_Mo_nextName_22 : decode b_Mo_nextName 22 = .ok (.getfield 108, 3) := by decide +kernel
theorem d_Mo_nextName_25 : decode b_Mo_nextName 25 = .ok (.if_icmp .lt 8, 3) := by decide +kernel
theorem d_Mo_nextName_28 : decode b_Mo_nextName 28 = .ok (.aload_n 0, 1) := by decide +kernel
theorem d_Mo_nextName_29 : decode b_Mo_nextName 29 = .ok (.iconst 5, 1) := by decide +kernel
theorem d_Mo_nextName_30 : decode b_Mo_nextName 30 = .ok (.invokevirtual 206, 3) := by decide +kernel
theorem d_Mo_nextName_33 : decode b_Mo_nextName 33 = .ok (.aload_n 0, 1) := by decide +kernel
theorem d_Mo_nextName_34 : decode b_Mo_nextName 34 = .ok (.getfield 200, 3) := by decide +kernel
theorem d_Mo_nextName_37 : decode b_Mo_nextName 37 = .ok (.ifCond .le 5, 3) := by decide +kernel
theorem d_Mo_nextName_40 : decode b_Mo_nextName 40 = .ok (.iconst 0, 1) := by decide +kernel
theorem d_Mo_nextName_41 : decode b_Mo_nextName 41 = .ok (.ireturn, 1) := by decide +kernel
theorem d_Mo_nextName_42 : decode b_Mo_nextName 42 = .ok (.aload_n 0, 1) := by decide +kernel
theorem d_Mo_nextName_43 : decode b_Mo_nextName 43 = .ok (.iload_n 1, 1) := by decide +kernel
theorem d_Mo_nextName_44 : decode b_Mo_nextName 44 = .ok (.invokevirtual 163, 3) := by decide +kernel
theorem d_Mo_nextName_47 : decode b_Mo_nextName 47 = .ok (.aload_n 0, 1) := by decide +kernel
theorem d_Mo_nextName_48 : decode b_Mo_nextName 48 = .ok (.getfield 63, 3) := by decide +kernel
theorem d_Mo_nextName_51 : decode b_Mo_nextName 51 = .ok (.iconst 0, 1) := by decide +kernel
theorem d_Mo_nextName_52 : decode b_Mo_nextName 52 = .ok (.iaload, 1) := by decide +kernel
theorem d_Mo_nextName_53 : decode b_Mo_nextName 53 = .ok (.ireturn, 1) := by decide +kernel
theorem d_Mo_nextName_54 : decode b_Mo_nextName 54 = .ok (.iconst 0, 1) := by decide +kernel
theorem d_Mo_nextName_55 : decode b_Mo_nextName 55 = .ok (.istore_n 1, 1) := by decide +kernel
theorem d_Mo_nextName_56 : decode b_Mo_nextName 56 = .ok (.iconst 1, 1) := by decide +kernel
theorem d_Mo_nextName_57 : decode b_Mo_nextName 57 = .ok (.istore_n 2, 1) := by decide +kernel
theorem d_Mo_nextName_58 : decode b_Mo_nextName 58 = .ok (.iload_n 2, 1) := by decide +kernel
theorem d_Mo_nextName_59 : decode b_Mo_nextName 59 = .ok (.bipush 16, 2) := by decide +kernel
theorem d_Mo_nextName_61 : decode b_Mo_nextName 61 = .ok (.if_icmp .ge 128, 3) := by decide +kernel
theorem d_Mo_nextName_64 : decode b_Mo_nextName 64 = .ok (.aload_n 0, 1) := by decide +kernel
theorem d_Mo_nextName_65 : decode b_Mo_nextName 65 = .ok (.getfield 200, 3) := by decide +kernel
theorem d_Mo_nextName_68 : decode b_Mo_nextName 68 = .ok (.ifCond .ne 121, 3) := by decide +kernel
theorem d_Mo_nextName_71 : decode b_Mo_nextName 71 = .ok (.iconst 2, 1) := by decide +kernel
theorem d_Mo_nextName_72 : decode b_Mo_nextName 72 = .ok (.iload_n 1, 1) := by decide +kernel
theorem d_Mo_nextName_73 : decode b_Mo_nextName 73 = .ok (.imul, 1) := by decide +kernel
theorem d_Mo_nextName_74 : decode b_Mo_nextName 74 = .ok (.aload_n 0, 1) := by decide +kernel
theorem d_Mo_nextName_75 : decode b_Mo_nextName 75 = .ok (.invokevirtual 209, 3) := by decide +kernel
theorem d_Mo_nextName_78 : decode b_Mo_nextName 78 = .ok (.iadd, 1) := by decide +kernel
theorem d_Mo_nextName_79 : decode b_Mo_nextName 79 = .ok (.istore_n 1, 1) := by decide +kernel
theorem d_Mo_nextName_80 : decode b_Mo_nextName 80 = .ok (.iconst 0, 1) := by decide +kernel
theorem d_Mo_nextName_81 : decode b_Mo_nextName 81 = .ok (.istore_n 3, 1) := by decide +kernel
theorem d_Mo_nextName_82 : decode b_Mo_nextName 82 = .ok (.iconst 0, 1) := by decide +kernel
theorem d_Mo_nextName_83 : decode b_Mo_nextName 83 = .ok (.istore 4, 2) := by decide +kernel
theorem d_Mo_nextName_85 : decode b_Mo_nextName 85 = .ok (.iload 4, 2) := by decide +kernel
theorem d_Mo_nextName_87 : decode b_Mo_nextName 87 = .ok (.aload_n 0, 1) := by decide +kernel
theorem d_Mo_nextName_88 : decode b_Mo_nextName 88 = .ok (.getfield 108, 3) := by decide +kernel
theorem d_Mo_nextName_91 : decode b_Mo_nextName 91 = .ok (.if_icmp .ge 83, 3) := by decide +kernel
theorem d_Mo_nextName_94 : decode b_Mo_nextName 94 = .ok (.aload_n 0, 1) := by decide +kernel
theorem d_Mo_nextName_95 : decode b_Mo_nextName 95 = .ok (.getfield 200, 3) := by decide +kernel
theorem d_Mo_nextName_98 : decode b_Mo_nextName 98 = .ok (.ifCond .ne 76, 3) := by decide +kernel
theorem d_Mo_nextName_101 : decode b_Mo_nextName 101 = .ok (.aload_n 0, 1) := by decide +kernel
theorem d_Mo_nextName_102 : decode b_Mo_nextName 102 = .ok (.getfield 48, 3) := by decide +kernel
theorem d_Mo_nextName_105 : decode b_Mo_nextName 105 = .ok (.iload 4, 2) := by decide +kernel
theorem d_Mo_nextName_107 : decode b_Mo_nextName 107 = .ok (.iaload, 1) := by decide +kernel
theorem d_Mo_nextName_108 : decode b_Mo_nextName 108 = .ok (.iload_n 2, 1) := by decide +kernel
theorem d_Mo_nextName_109 : decode b_Mo_nextName 109 = .ok (.if_icmp .ne 17, 3) := by decide +kernel
theorem d_Mo_nextName_112 : decode b_Mo_nextName 112 = .ok (.aload_n 0, 1) := by decide +kernel
theorem d_Mo_nextName_113 : decode b_Mo_nextName 113 = .ok (.getfield 51, 3) := by decide +kernel
theorem d_Mo_nextName_116 : decode b_Mo_nextName 116 = .ok (.iload 4, 2) := by decide +kernel
theorem d_Mo_nextName_118 : decode b_Mo_nextName 118 = .ok (.iaload, 1) := by decide +kernel
theorem d_Mo_nextName_119 : decode b_Mo_nextName 119 = .ok (.iload_n 1, 1) := by decide +kernel
theorem d_Mo_nextName_120 : decode b_Mo_nextName 120 = .ok (.if_icmp .ne 6, 3) := by decide +kernel
theorem d_Mo_nextName_123 : decode b_Mo_nextName 123 = .ok (.iload 4, 2) := by decide +kernel
theorem d_Mo_nextName_125 : decode b_Mo_nextName 125 = .ok (.ireturn, 1) := by decide +kernel
theorem d_Mo_nextName_126 : decode b_Mo_nextName 126 = .ok (.iload_n 3, 1) := by decide +kernel
theorem d_Mo_nextName_127 : decode b_Mo_nextName 127 = .ok (.ifCond .ne 35, 3) := by decide +kernel
theorem d_Mo_nextName_130 : decode b_Mo_nextName 130 = .ok (.aload_n 0, 1) := by decide +kernel
theorem d_Mo_nextName_131 : decode b_Mo_nextName 131 = .ok (.getfield 48, 3) := by decide +kernel
theorem d_Mo_nextName_134 : decode b_Mo_nextName 134 = .ok (.iload 4, 2) := by decide +kernel
theorem d_Mo_nextName_136 : decode b_Mo_nextName 136 = .ok (.iaload, 1) := by decide +kernel
theorem d_Mo_nextName_137 : decode b_Mo_nextName 137 = .ok (.iload_n 2, 1) := by decide +kernel
theorem d_Mo_nextName_138 : decode b_Mo_nextName 138 = .ok (.if_icmp .le 28, 3) := by decide +kernel
theorem d_Mo_nextName_141 : decode b_Mo_nextName 141 = .ok (.aload_n 0, 1) := by decide +kernel
theorem d_Mo_nextName_142 : decode b_Mo_nextName 142 = .ok (.getfield 51, 3) := by decide +kernel
theorem d_Mo_nextName_145 : decode b_Mo_nextName 145 = .ok (.iload 4, 2) := by decide +kernel
theorem d_Mo_nextName_147 : decode b_Mo_nextName 147 = .ok (.iaload, 1) := by decide +kernel
theorem d_Mo_nextName_148 : decode b_Mo_nextName 148 = .ok (.aload_n 0, 1) := by decide +kernel
theorem d_Mo_nextName_149 : decode b_Mo_nextName 149 = .ok (.getfield 48, 3) := by decide +kernel
theorem d_Mo_nextName_152 : decode b_Mo_nextName 152 = .ok (.iload 4, 2) := by decide +kernel
theorem d_Mo_nextName_154 : decode b_Mo_nextName 154 = .ok (.iaload, 1) := by decide +kernel
theorem d_Mo_nextName_155 : decode b_Mo_nextName 155 = .ok (.iload_n 2, 1) := by decide +kernel
theorem d_Mo_nextName_156 : decode b_Mo_nextName 156 = .ok (.isub, 1) := by decide +kernel
theorem d_Mo_nextName_157 : decode b_Mo_nextName 157 = .ok (.ishr, 1) := by decide +kernel
theorem d_Mo_nextName_158 : decode b_Mo_nextName 158 = .ok (.iload_n 1, 1) := by decide +kernel
theorem d_Mo_nextName_159 : decode b_Mo_nextName 159 = .ok (.if_icmp .ne 7, 3) := by decide +kernel
theorem d_Mo_nextName_162 : decode b_Mo_nextName 162 = .ok (.iconst 1, 1) := by decide +kernel
theorem d_Mo_nextName_163 : decode b_Mo_nextName 163 = .ok (.goto 4, 3) := by decide +kernel
theorem d_Mo_nextName_166 : decode b_Mo_nextName 166 = .ok (.iconst 0, 1) := by decide +kernel
theorem d_Mo_nextName_167 : decode b_Mo_nextName 167 = .ok (.istore_n 3, 1) := by decide +kernel
theorem d_Mo_nextName_168 : decode b_Mo_nextName 168 = .ok (.iinc 4 1, 3) := by decide +kernel
theorem d_Mo_nextName_171 : decode b_Mo_nextName 171 = .ok (.goto (-86), 3) := by decide +kernel
theorem d_Mo_nextName_174 : decode b_Mo_nextName 174 = .ok (.iload_n 3, 1) := by decide +kernel
theorem d_Mo_nextName_175 : decode b_Mo_nextName 175 = .ok (.ifCond .ne 8, 3) := by decide +kernel
theorem d_Mo_nextName_178 : decode b_Mo_nextName 178 = .ok (.aload_n 0, 1) := by decide +kernel
theorem d_Mo_nextName_179 : decode b_Mo_nextName 179 = .ok (.iconst 5, 1) := by decide +kernel
theorem d_Mo_nextName_180 : decode b_Mo_nextName 180 = .ok (.invokevirtual 206, 3) := by decide +kernel
theorem d_Mo_nextName_183 : decode b_Mo_nextName 183 = .ok (.iinc 2 1, 3) := by decide +kernel
theorem d_Mo_nextName_186 : decode b_Mo_nextName 186 = .ok (.goto (-128), 3) := by decide +kernel
theorem d_Mo_nextName_189 : decode b_Mo_nextName 189 = .ok (.iconst 0, 1) := by decide +kernel
theorem d_Mo_nextName_190 : decode b_Mo_nextName 190 = .ok (.ireturn, 1) := by decide +kernel
theorem d_Mo_nextRuns_0 : decode b_Mo_nextRuns 0 = .ok (.lconst 0, 1) := by decide +kernel
theorem d_Mo_nextRuns_1 : decode b_Mo_nextRuns 1 = .ok (.lstore_n 2, 1) := by decide +kernel
theorem d_Mo_nextRuns_2 : decode b_Mo_nextRuns 2 = .ok (.iconst 0, 1) := by decide +kernel
theorem d_Mo_nextRuns_3 : decode b_Mo_nextRuns 3 = .ok (.istore 4, 2) := by decide +kernel
theorem d_Mo_nextRuns_5 : decode b_Mo_nextRuns 5 = .ok (.iconst 0, 1) := by decide +kernel
theorem d_Mo_nextRuns_6 : decode b_Mo_nextRuns 6 = .ok (.istore 5, 2) := by decide +kernel
theorem d_Mo_nextRuns_8 : decode b_Mo_nextRuns 8 = .ok (.iconst 1, 1) := by decide +kernel
theorem d_Mo_nextRuns_9 : decode b_Mo_nextRuns 9 = .ok (.istore 6, 2) := by decide +kernel
theorem d_Mo_nextRuns_11 : decode b_Mo_nextRuns 11 = .ok (.aload_n 0, 1) := by decide +kernel
theorem d_Mo_nextRuns_12 : decode b_Mo_nextRuns 12 = .ok (.getfield 7, 3) := by decide +kernel
theorem d_Mo_nextRuns_15 : decode b_Mo_nextRuns 15 = .ok (.iload_n 1, 1) := by decide +kernel
theorem d_Mo_nextRuns_16 : decode b_Mo_nextRuns 16 = .ok (.iaload, 1) := by decide +kernel
theorem d_Mo_nextRuns_17 : decode b_Mo_nextRuns 17 = .ok (.aload_n 0, 1) := by decide +kernel
theorem d_Mo_nextRuns_18 : decode b_Mo_nextRuns 18 = .ok (.getfield 13, 3) := by decide +kernel
theorem d_Mo_nextRuns_21 : decode b_Mo_nextRuns 21 = .ok (.iload_n 1, 1) := by decide +kernel
theorem d_Mo_nextRuns_22 : decode b_Mo_nextRuns 22 = .ok (.iaload, 1) := by decide +kernel
theorem d_Mo_nextRuns_23 : decode b_Mo_nextRuns 23 = .ok (.imul, 1) := by decide +kernel
theorem d_Mo_nextRuns_24 : decode b_Mo_nextRuns 24 = .ok (.istore 7, 2) := by decide +kernel
theorem d_Mo_nextRuns_26 : decode b_Mo_nextRuns 26 = .ok (.aload_n 0, 1) := by decide +kernel
theorem d_Mo_nextRuns_27 : decode b_Mo_nextRuns 27 = .ok (.getfield 200, 3) := by decide +kernel
theorem d_Mo_nextRuns_30 : decode b_Mo_nextRuns 30 = .ok (.ifCond .ne 137, 3) := by decide +kernel
theorem d_Mo_nextRuns_33 : decode b_Mo_nextRuns 33 = .ok (.iload 4, 2) := by decide +kernel
theorem d_Mo_nextRuns_35 : decode b_Mo_nextRuns 35 = .ok (.iload 7, 2) := by decide +kernel
theorem d_Mo_nextRuns_37 : decode b_Mo_nextRuns 37 = .ok (.if_icmp .ge 130, 3) := by decide +kernel
theorem d_Mo_nextRuns_40 : decode b_Mo_nextRuns 40 = .ok (.aload_n 0, 1) := by decide +kernel
theorem d_Mo_nextRuns_41 : decode b_Mo_nextRuns 41 = .ok (.invokevirtual 216, 3) := by decide +kernel
theorem d_Mo_nextRuns_44 : decode b_Mo_nextRuns 44 = .ok (.istore 8, 2) := by decide +kernel
theorem d_Mo_nextRuns_46 : decode b_Mo_nextRuns 46 = .ok (.aload_n 0, 1) := by decide +kernel
theorem d_Mo_nextRuns_47 : decode b_Mo_nextRuns 47 = .ok (.getfield 200, 3) := by decide +kernel
theorem d_Mo_nextRuns_50 : decode b_Mo_nextRuns 50 = .ok (.ifCond .ne 29, 3) := by decide +kernel
theorem d_Mo_nextRuns_53 : decode b_Mo_nextRuns 53 = .ok (.iload 8, 2) := by decide +kernel
theorem d_Mo_nextRuns_55 : decode b_Mo_nextRuns 55 = .ok (.iload 7, 2) := by decide +kernel
theorem d_Mo_nextRuns_57 : decode b_Mo_nextRuns 57 = .ok (.iload 4, 2) := by decide +kernel
theorem d_Mo_nextRuns_59 : decode b_Mo_nextRuns 59 = .ok (.isub, 1) := by decide +kernel
theorem d_Mo_nextRuns_60 : decode b_Mo_nextRuns 60 = .ok (.if_icmp .gt 13, 3) := by decide +kernel
theorem d_Mo_nextRuns_63 : decode b_Mo_nextRuns 63 = .ok (.iload 8, 2) := by decide +kernel
theorem d_Mo_nextRuns_65 : decode b_Mo_nextRuns 65 = .ok (.ifCond .ne 14, 3) := by decide +kernel
theorem d_Mo_nextRuns_68 : decode b_Mo_nextRuns 68 = .ok (.iload 6, 2) := by decide +kernel
theorem d_Mo_nextRuns_70 : decode b_Mo_nextRuns 70 = .ok (.ifCond .ne 9, 3) := by decide +kernel
theorem d_Mo_nextRuns_73 : decode b_Mo_nextRuns 73 = .ok (.aload_n 0, 1) := by decide +kernel
theorem d_Mo_nextRuns_74 : decode b_Mo_nextRuns 74 = .ok (.bipush 7, 2) := by decide +kernel
theorem d_Mo_nextRuns_76 : decode b_Mo_nextRuns 76 = .ok (.invokevirtual 206, 3) := by decide +kernel
theorem d_Mo_nextRuns_79 : decode b_Mo_nextRuns 79 = .ok (.iconst 0, 1) := by decide +kernel
theorem d_Mo_nextRuns_80 : decode b_Mo_nextRuns 80 = .ok (.istore 9, 2) := by decide +kernel
theorem d_Mo_nextRuns_82 : decode b_Mo_nextRuns 82 = .ok (.iload 9, 2) := by decide +kernel
theorem d_Mo_nextRuns_84 : decode b_Mo_nextRuns 84 = .ok (.iload 8, 2) := by decide +kernel
theorem d_Mo_nextRuns_86 : decode b_Mo_nextRuns 86 = .ok (.if_icmp .ge 63, 3) := by decide +kernel
theorem d_Mo_nextRuns_89 : decode b_Mo_nextRuns 89 = .ok (.aload_n 0, 1) := by decide +kernel
theorem d_Mo_nextRuns_90 : decode b_Mo_nextRuns 90 = .ok (.getfield 200, 3) := by decide +kernel
theorem d_Mo_nextRuns_93 : decode b_Mo_nextRuns 93 = .ok (.ifCond .ne 56, 3) := by decide +kernel
theorem d_Mo_nextRuns_96 : decode b_Mo_nextRuns 96 = .ok (.iload 4, 2) := by decide +kernel
theorem d_Mo_nextRuns_98 : decode b_Mo_nextRuns 98 = .ok (.aload_n 0, 1) := by decide +kernel
theorem d_Mo_nextRuns_99 : decode b_Mo_nextRuns 99 = .ok (.getfield 7, 3) := by decide +kernel
theorem d_Mo_nextRuns_102 : decode b_Mo_nextRuns 102 = .ok (.iload_n 1, 1) := by decide +kernel
theorem d_Mo_nextRuns_103 : decode b_Mo_nextRuns 103 = .ok (.iaload, 1) := by decide +kernel
theorem d_Mo_nextRuns_104 : decode b_Mo_nextRuns 104 = .ok (.idiv, 1) := by decide +kernel
theorem d_Mo_nextRuns_105 : decode b_Mo_nextRuns 105 = .ok (.istore 10, 2) := by decide +kernel
theorem d_Mo_nextRuns_107 : decode b_Mo_nextRuns 107 = .ok (.iload 4, 2) := by decide +kernel
theorem d_Mo_nextRuns_109 : decode b_Mo_nextRuns 109 = .ok (.aload_n 0, 1) := by decide +kernel
theorem d_Mo_nextRuns_110 : decode b_Mo_nextRuns 110 = .ok (.getfield 7, 3) := by decide +kernel
theorem d_Mo_nextRuns_113 : decode b_Mo_nextRuns 113 = .ok (.iload_n 1, 1) := by decide +kernel
theorem d_Mo_nextRuns_114 : decode b_Mo_nextRuns 114 = .ok (.iaload, 1) := by decide +kernel
theorem d_Mo_nextRuns_115 : decode b_Mo_nextRuns 115 = .ok (.irem, 1) := by decide +kernel
theorem d_Mo_nextRuns_116 : decode b_Mo_nextRuns 116 = .ok (.istore 11, 2) := by decide +kernel
theorem d_Mo_nextRuns_118 : decode b_Mo_nextRuns 118 = .ok (.iload 5, 2) := by decide +kernel
theorem d_Mo_nextRuns_120 : decode b_Mo_nextRuns 120 = .ok (.ifCond .eq 18, 3) := by decide +kernel
theorem d_Mo_nextRuns_123 : decode b_Mo_nextRuns 123 = .ok (.lload_n 2, 1) := by decide +kernel
theorem d_Mo_nextRuns_124 : decode b_Mo_nextRuns 124 = .ok (.lconst 1, 1) := by decide +kernel
theorem d_Mo_nextRuns_125 : decode b_Mo_nextRuns 125 = .ok (.bipush 8, 2) := by decide +kernel
theorem d_Mo_nextRuns_127 : decode b_Mo_nextRuns 127 = .ok (.iload 10, 2) := by decide +kernel
theorem d_Mo_nextRuns_129 : decode b_Mo_nextRuns 129 = .ok (.imul, 1) := by decide +kernel
theorem d_Mo_nextRuns_130 : decode b_Mo_nextRuns 130 = .ok (.iload 11, 2) := by decide +kernel
theorem d_Mo_nextRuns_132 : decode b_Mo_nextRuns 132 = .ok (.iadd, 1) := by decide +kernel
theorem d_Mo_nextRuns_133 : decode b_Mo_nextRuns 133 = .ok (.lshl, 1) := by decide +kernel
theorem d_Mo_nextRuns_134 : decode b_Mo_nextRuns 134 = .ok (.lor, 1) := by decide +kernel
theorem d_Mo_nextRuns_135 : decode b_Mo_nextRuns 135 = .ok (.goto 4, 3) := by decide +kernel
theorem d_Mo_nextRuns_138 : decode b_Mo_nextRuns 138 = .ok (.lload_n 2, 1) := by decide +kernel
theorem d_Mo_nextRuns_139 : decode b_Mo_nextRuns 139 = .ok (.lstore_n 2, 1) := by decide +kernel
theorem d_Mo_nextRuns_140 : decode b_Mo_nextRuns 140 = .ok (.iinc 4 1, 3) := by decide +kernel
theorem d_Mo_nextRuns_143 : decode b_Mo_nextRuns 143 = .ok (.iinc 9 1, 3) := by decide +kernel
theorem d_Mo_nextRuns_146 : decode b_Mo_nextRuns 146 = .ok (.goto (-64), 3) := by decide +kernel
theorem d_Mo_nextRuns_149 : decode b_Mo_nextRuns 149 = .ok (.iload 5, 2) := by decide +kernel
theorem d_Mo_nextRuns_151 : decode b_Mo_nextRuns 151 = .ok (.ifCond .ne 7, 3) := by decide +kernel
theorem d_Mo_nextRuns_154 : decode b_Mo_nextRuns 154 = .ok (.iconst 1, 1) := by decide +kernel
theorem d_Mo_nextRuns_155 : decode b_Mo_nextRuns 155 = .ok (.goto 4, 3) := by decide +kernel
theorem d_Mo_nextRuns_158 : decode b_Mo_nextRuns 158 = .ok (.iconst 0, 1) := by decide +kernel
theorem d_Mo_nextRuns_159 : decode b_Mo_nextRuns 159 = .ok (.istore 5, 2) := by decide +kernel
theorem d_Mo_nextRuns_161 : decode b_Mo_nextRuns 161 = .ok (.iconst 0, 1) := by decide +kernel
theorem d_Mo_nextRuns_162 : decode b_Mo_nextRuns 162 = .ok (.istore 6, 2) := by decide +kernel
theorem d_Mo_nextRuns_164 : decode b_Mo_nextRuns 164 = .ok (.goto (-138), 3) := by decide +kernel
theorem d_Mo_nextRuns_167 : decode b_Mo_nextRuns 167 = .ok (.lload_n 2, 1) := by decide +kernel
theorem d_Mo_nextRuns_168 : decode b_Mo_nextRuns 168 = .ok (.lreturn, 1) := by decide +kernel
theorem d_Mo_readInstance_0 : decode b_Mo_readInstance 0 = .ok (.iload_n 2, 1) := by decide +kernel
theorem d_Mo_readInstance_1 : decode b_Mo_readInstance 1 = .ok (.aload_n 0, 1) := by decide +kernel
theorem d_Mo_readInstance_2 : decode b_Mo_readInstance 2 = .ok (.getfield 85, 3) := by decide +kernel
theorem d_Mo_readInstance_5 : decode b_Mo_readInstance 5 = .ok (.iconst 2, 1) := by decide +kernel
theorem d_Mo_readInstance_6 : decode b_Mo_readInstance 6 = .ok (.iaload, 1) := by decide +kernel
theorem d_Mo_readInstance_7 : decode b_Mo_readInstance 7 = .ok (.ishl, 1) := by decide +kernel
theorem d_Mo_readInstance_8 : decode b_Mo_readInstance 8 = .ok (.aload_n 0, 1) := by decide +kernel
theorem d_Mo_readInstance_9 : decode b_Mo_readInstance 9 = .ok (.aload_n 0, 1) := by decide +kernel
theorem d_Mo_readInstance_10 : decode b_Mo_readInstance 10 = .ok (.getfield 85, 3) := by decide +kernel
theorem d_Mo_readInstance_13 : decode b_Mo_readInstance 13 = .ok (.iconst 2, 1) := by decide +kernel
theorem d_Mo_readInstance_14 : decode b_Mo_readInstance 14 = .ok (.iaload, 1) := by decide +kernel
theorem d_Mo_readInstance_15 : decode b_Mo_readInstance 15 = .ok (.invokevirtual 213, 3) := by decide +kernel
theorem d_Mo_readInstance_18 : decode b_Mo_readInstance 18 = .ok (.iadd, 1) := by decide +kernel
theorem d_Mo_readInstance_19 : decode b_Mo_readInstance 19 = .ok (.istore_n 3, 1) := by decide +kernel
theorem d_Mo_readInstance_20 : decode b_Mo_readInstance 20 = .ok (.aload_n 0, 1) := by decide +kernel
theorem d_Mo_readInstance_21 : decode b_Mo_readInstance 21 = .ok (.invokevirtual 220, 3) := by decide +kernel
theorem d_Mo_readInstance_24 : decode b_Mo_readInstance 24 = .ok (.istore 4, 2) := by decide +kernel
theorem d_Mo_readInstance_26 : decode b_Mo_readInstance 26 = .ok (.aload_n 0, 1) := by decide +kernel
theorem d_Mo_readInstance_27 : decode b_Mo_readInstance 27 = .ok (.getfield 200, 3) := by decide +kernel
theorem d_Mo_readInstance_30 : decode b_Mo_readInstance 30 = .ok (.ifCond .le 4, 3) := by decide +kernel
theorem d_Mo_readInstance_33 : decode b_Mo_readInstance 33 = .ok (.return_, 1) := by decide +kernel
theorem d_Mo_readInstance_34 : decode b_Mo_readInstance 34 = .ok (.aload_n 0, 1) := by decide +kernel
theorem d_Mo_readInstance_35 : decode b_Mo_readInstance 35 = .ok (.getfield 85, 3) := by decide +kernel
theorem d_Mo_readInstance_38 : decode b_Mo_readInstance 38 = .ok (.iconst 1, 1) := by decide +kernel
theorem d_Mo_readInstance_39 : decode b_Mo_readInstance 39 = .ok (.iaload, 1) := by decide +kernel
theorem d_Mo_readInstance_40 : decode b_Mo_readInstance 40 = .ok (.iconst 1, 1) := by decide +kernel
theorem d_Mo_readInstance_41 : decode b_Mo_readInstance 41 = .ok (.if_icmp .ne 7, 3) := by decide +kernel
theorem d_Mo_readInstance_44 : decode b_Mo_readInstance 44 = .ok (.iload_n 3, 1) := by decide +kernel
theorem d_Mo_readInstance_45 : decode b_Mo_readInstance 45 = .ok (.goto 4, 3) := by decide +kernel
theorem d_Mo_readInstance_48 : decode b_Mo_readInstance 48 = .ok (.iload_n 1, 1) := by decide +kernel
theorem d_Mo_readInstance_49 : decode b_Mo_readInstance 49 = .ok (.istore 5, 2) := by decide +kernel
theorem d_Mo_readInstance_51 : decode b_Mo_readInstance 51 = .ok (.aload_n 0, 1) := by decide +kernel
theorem d_Mo_readInstance_52 : decode b_Mo_readInstance 52 = .ok (.getfield 85, 3) := by decide +kernel
theorem d_Mo_readInstance_55 : decode b_Mo_readInstance 55 = .ok (.iconst 1, 1) := by decide +kernel
theorem d_Mo_readInstance_56 : decode b_Mo_readInstance 56 = .ok (.iaload, 1) := by decide +kernel
theorem d_Mo_readInstance_57 : decode b_Mo_readInstance 57 = .ok (.iconst 1, 1) := by decide +kernel
theorem d_Mo_readInstance_58 : decode b_Mo_readInstance 58 = .ok (.if_icmp .ne 7, 3) := by decide +kernel
theorem d_Mo_readInstance_61 : decode b_Mo_readInstance 61 = .ok (.iload_n 1, 1) := by decide +kernel
theorem d_Mo_readInstance_62 : decode b_Mo_readInstance 62 = .ok (.goto 4, 3) := by decide +kernel
theorem d_Mo_readInstance_65 : decode b_Mo_readInstance 65 = .ok (.iload_n 3, 1) := by decide +kernel
theorem d_Mo_readInstance_66 : decode b_Mo_readInstance 66 = .ok (.istore 6, 2) := by decide +kernel
theorem d_Mo_readInstance_68 : decode b_Mo_readInstance 68 = .ok (.iload 5, 2) := by decide +kernel
theorem d_Mo_readInstance_70 : decode b_Mo_readInstance 70 = .ok (.aload_n 0, 1) := by decide +kernel
theorem d_Mo_readInstance_71 : decode b_Mo_readInstance 71 = .ok (.getfield 85, 3) := by decide +kernel
theorem d_Mo_readInstance_74 : decode b_Mo_readInstance 74 = .ok (.iconst 0, 1) := by decide +kernel
theorem d_Mo_readInstance_75 : decode b_Mo_readInstance 75 = .ok (.iaload, 1) := by decide +kernel
theorem d_Mo_readInstance_76 : decode b_Mo_readInstance 76 = .ok (.iconst 2, 1) := by decide +kernel
theorem d_Mo_readInstance_77 : decode b_Mo_readInstance 77 = .ok (.if_icmp .lt 15, 3) := by decide +kernel
theorem d_Mo_readInstance_80 : decode b_Mo_readInstance 80 = .ok (.aload_n 0, 1) := by decide +kernel
theorem d_Mo_readInstance_81 : decode b_Mo_readInstance 81 = .ok (.getfield 7, 3) := by decide +kernel
theorem d_Mo_readInstance_84 : decode b_Mo_readInstance 84 = .ok (.iload 4, 2) := by decide +kernel
theorem d_Mo_readInstance_86 : decode b_Mo_readInstance 86 = .ok (.iaload, 1) := by decide +kernel
theorem d_Mo_readInstance_87 : decode b_Mo_readInstance 87 = .ok (.iconst 1, 1) := by decide +kernel
theorem d_Mo_readInstance_88 : decode b_Mo_readInstance 88 = .ok (.isub, 1) := by decide +kernel
theorem d_Mo_readInstance_89 : decode b_Mo_readInstance 89 = .ok (.goto 4, 3) := by decide +kernel
theorem d_Mo_readInstance_92 : decode b_Mo_readInstance 92 = .ok (.iconst 0, 1) := by decide +kernel
theorem d_Mo_readInstance_93 : decode b_Mo_readInstance 93 = .ok (.isub, 1) := by decide +kernel
theorem d_Mo_readInstance_94 : decode b_Mo_readInstance 94 = .ok (.istore 7, 2) := by decide +kernel
theorem d_Mo_readInstance_96 : decode b_Mo_readInstance 96 = .ok (.iload 6, 2) := by decide +kernel
theorem d_Mo_readInstance_98 : decode b_Mo_readInstance 98 = .ok (.aload_n 0, 1) := by decide +kernel
theorem d_Mo_readInstance_99 : decode b_Mo_readInstance 99 = .ok (.getfield 85, 3) := by decide +kernel
theorem d_Mo_readInstance_102 : decode b_Mo_readInstance 102 = .ok (.iconst 0, 1) := by decide +kernel
theorem d_Mo_readInstance_103 : decode b_Mo_readInstance 103 = .ok (.iaload, 1) := by decide +kernel
theorem d_Mo_readInstance_104 : decode b_Mo_readInstance 104 = .ok (.iconst 2, 1) := by decide +kernel
theorem d_Mo_readInstance_105 : decode b_Mo_readInstance 105 = .ok (.irem, 1) := by decide +kernel
theorem d_Mo_readInstance_106 : decode b_Mo_readInstance 106 = .ok (.iconst 1, 1) := by decide +kernel
theorem d_Mo_readInstance_107 : decode b_Mo_readInstance 107 = .ok (.if_icmp .ne 15, 3) := by decide +kernel
theorem d_Mo_readInstance_110 : decode b_Mo_readInstance 110 = .ok (.aload_n 0, 1) := by decide +kernel
theorem d_Mo_readInstance_111 : decode b_Mo_readInstance 111 = .ok (.getfield 13, 3) := by decide +kernel
theorem d_Mo_readInstance_114 : decode b_Mo_readInstance 114 = .ok (.iload 4, 2) := by decide +kernel
theorem d_Mo_readInstance_116 : decode b_Mo_readInstance 116 = .ok (.iaload, 1) := by decide +kernel
theorem d_Mo_readInstance_117 : decode b_Mo_readInstance 117 = .ok (.iconst 1, 1) := by decide +kernel
theorem d_Mo_readInstance_118 : decode b_Mo_readInstance 118 = .ok (.isub, 1) := by decide +kernel
theorem d_Mo_readInstance_119 : decode b_Mo_readInstance 119 = .ok (.goto 4, 3) := by decide +kernel
theorem d_Mo_readInstance_122 : decode b_Mo_readInstance 122 = .ok (.iconst 0, 1) := by decide +kernel
theorem d_Mo_readInstance_123 : decode b_Mo_readInstance 123 = .ok (.isub, 1) := by decide +kernel
theorem d_Mo_readInstance_124 : decode b_Mo_readInstance 124 = .ok (.istore 8, 2) := by decide +kernel
theorem d_Mo_readInstance_126 : decode b_Mo_readInstance 126 = .ok (.iload 7, 2) := by decide +kernel
theorem d_Mo_readInstance_128 : decode b_Mo_readInstance 128 = .ok (.bipush (-8), 2) := by decide +kernel
theorem d_Mo_readInstance_130 : decode b_Mo_readInstance 130 = .ok (.bipush 31, 2) := by decide +kernel
theorem d_Mo_readInstance_132 : decode b_Mo_readInstance 132 = .ok (.invokestatic 104, 3) := by decide +kernel
theorem d_Mo_readInstance_135 : decode b_Mo_readInstance 135 = .ok (.ifCond .eq 15, 3) := by decide +kernel
theorem d_Mo_readInstance_138 : decode b_Mo_readInstance 138 = .ok (.iload 8, 2) := by decide +kernel
theorem d_Mo_readInstance_140 : decode b_Mo_readInstance 140 = .ok (.bipush (-8), 2) := by decide +kernel
theorem d_Mo_readInstance_142 : decode b_Mo_readInstance 142 = .ok (.bipush 31, 2) := by decide +kernel
theorem d_Mo_readInstance_144 : decode b_Mo_readInstance 144 = .ok (.invokestatic 104, 3) := by decide +kernel
theorem d_Mo_readInstance_147 : decode b_Mo_readInstance 147 = .ok (.ifCond .ne 10, 3) := by decide +kernel
theorem d_Mo_readInstance_150 : decode b_Mo_readInstance 150 = .ok (.aload_n 0, 1) := by decide +kernel
theorem d_Mo_readInstance_151 : decode b_Mo_readInstance 151 = .ok (.bipush 6, 2) := by decide +kernel
theorem d_Mo_readInstance_153 : decode b_Mo_readInstance 153 = .ok (.invokevirtual 206, 3) := by decide +kernel
theorem d_Mo_readInstance_156 : decode b_Mo_readInstance 156 = .ok (.return_, 1) := by decide +kernel
theorem d_Mo_readInstance_157 : decode b_Mo_readInstance 157 = .ok (.aload_n 0, 1) := by decide +kernel
theorem d_Mo_readInstance_158 : decode b_Mo_readInstance 158 = .ok (.getfield 73, 3) := by decide +kernel
theorem d_Mo_readInstance_161 : decode b_Mo_readInstance 161 = .ok (.aload_n 0, 1) := by decide +kernel
theorem d_Mo_readInstance_162 : decode b_Mo_readInstance 162 = .ok (.getfield 223, 3) := by decide +kernel
theorem d_Mo_readInstance_165 : decode b_Mo_readInstance 165 = .ok (.iload 4, 2) := by decide +kernel
theorem d_Mo_readInstance_167 : decode b_Mo_readInstance 167 = .ok (.iastore, 1) := by decide +kernel
theorem d_Mo_readInstance_168 : decode b_Mo_readInstance 168 = .ok (.aload_n 0, 1) := by decide +kernel
theorem d_Mo_readInstance_169 : decode b_Mo_readInstance 169 = .ok (.getfield 76, 3) := by decide +kernel
theorem d_Mo_readInstance_172 : decode b_Mo_readInstance 172 = .ok (.aload_n 0, 1) := by decide +kernel
theorem d_Mo_readInstance_173 : decode b_Mo_readInstance 173 = .ok (.getfield 223, 3) := by decide +kernel
theorem d_Mo_readInstance_176 : decode b_Mo_readInstance 176 = .ok (.iload 7, 2) := by decide +kernel
theorem d_Mo_readInstance_178 : decode b_Mo_readInstance 178 = .ok (.iastore, 1) := by decide +kernel
theorem d_Mo_readInstance_179 : decode b_Mo_readInstance 179 = .ok (.aload_n 0, 1) := by decide +kernel
theorem d_Mo_readInstance_180 : decode b_Mo_readInstance 180 = .ok (.getfield 79, 3) := by decide +kernel
theorem d_Mo_readInstance_183 : decode b_Mo_readInstance 183 = .ok (.aload_n 0, 1) := by decide +kernel
theorem d_Mo_readInstance_184 : decode b_Mo_readInstance 184 = .ok (.getfield 223, 3) := by decide +kernel
theorem d_Mo_readInstance_187 : decode b_Mo_readInstance 187 = .ok (.iload 8, 2) := by decide +kernel
theorem d_Mo_readInstance_189 : decode b_Mo_readInstance 189 = .ok (.iastore, 1) := by decide +kernel
theorem d_Mo_readInstance_190 : decode b_Mo_readInstance 190 = .ok (.aload_n 0, 1) := by decide +kernel
theorem d_Mo_readInstance_191 : decode b_Mo_readInstance 191 = .ok (.getfield 82, 3) := by decide +kernel
theorem d_Mo_readInstance_194 : decode b_Mo_readInstance 194 = .ok (.aload_n 0, 1) := by decide +kernel
theorem d_Mo_readInstance_195 : decode b_Mo_readInstance 195 = .ok (.getfield 223, 3) := by decide +kernel
theorem d_Mo_readInstance_198 : decode b_Mo_readInstance 198 = .ok (.aload_n 0, 1) := by decide +kernel
theorem d_Mo_readInstance_199 : decode b_Mo_readInstance 199 = .ok (.invokevirtual 209, 3) := by decide +kernel
theorem d_Mo_readInstance_202 : decode b_Mo_readInstance 202 = .ok (.iconst 1, 1) := by decide +kernel
theorem d_Mo_readInstance_203 : decode b_Mo_readInstance 203 = .ok (.if_icmp .ne 12, 3) := by decide +kernel
theorem d_Mo_readInstance_206 : decode b_Mo_readInstance 206 = .ok (.aload_n 0, 1) := by decide +kernel
theorem d_Mo_readInstance_207 : decode b_Mo_readInstance 207 = .ok (.iload 4, 2) := by decide +kernel
theorem d_Mo_readInstance_209 : decode b_Mo_readInstance 209 = .ok (.invokevirtual 226, 3) := by decide +kernel
theorem d_Mo_readInstance_212 : decode b_Mo_readInstance 212 = .ok (.goto 4, 3) := by decide +kernel
theorem d_Mo_readInstance_215 : decode b_Mo_readInstance 215 = .ok (.lconst 0, 1) := by decide +kernel
theorem d_Mo_readInstance_216 : decode b_Mo_readInstance 216 = .ok (.lastore, 1) := by decide +kernel
theorem d_Mo_readInstance_217 : decode b_Mo_readInstance 217 = .ok (.aload_n 0, 1) := by decide +kernel
theorem d_Mo_readInstance_218 : decode b_Mo_readInstance 218 = .ok (.dup, 1) := by decide +kernel
theorem d_Mo_readInstance_219 : decode b_Mo_readInstance 219 = .ok (.getfield 223, 3) := by decide +kernel
theorem d_Mo_readInstance_222 : decode b_Mo_readInstance 222 = .ok (.iconst 1, 1) := by decide +kernel
theorem d_Mo_readInstance_223 : decode b_Mo_readInstance 223 = .ok (.iadd, 1) := by decide +kernel
theorem d_Mo_readInstance_224 : decode b_Mo_readInstance 224 = .ok (.putfield 223, 3) := by decide +kernel
theorem d_Mo_readInstance_227 : decode b_Mo_readInstance 227 = .ok (.return_, 1) := by decide +kernel
theorem d_Mo_readAll_0 : decode b_Mo_readAll 0 = .ok (.aload_n 0, 1) := by decide +kernel
theorem d_Mo_readAll_1 : decode b_Mo_readAll 1 = .ok (.invokevirtual 216, 3) := by decide +kernel
theorem d_Mo_readAll_4 : decode b_Mo_readAll 4 = .ok (.istore_n 1, 1) := by decide +kernel
theorem d_Mo_readAll_5 : decode b_Mo_readAll 5 = .ok (.aload_n 0, 1) := by decide +kernel
theorem d_Mo_readAll_6 : decode b_Mo_readAll 6 = .ok (.getfield 200, 3) := by decide +kernel
theorem d_Mo_readAll_9 : decode b_Mo_readAll 9 = .ok (.ifCond .ne 14, 3) := by decide +kernel
theorem d_Mo_readAll_12 : decode b_Mo_readAll 12 = .ok (.iload_n 1, 1) := by decide +kernel
theorem d_Mo_readAll_13 : decode b_Mo_readAll 13 = .ok (.bipush 40, 2) := by decide +kernel
theorem d_Mo_readAll_15 : decode b_Mo_readAll 15 = .ok (.if_icmp .le 8, 3) := by decide +kernel
theorem d_Mo_readAll_18 : decode b_Mo_readAll 18 = .ok (.aload_n 0, 1) := by decide +kernel
theorem d_Mo_readAll_19 : decode b_Mo_readAll 19 = .ok (.iconst 2, 1) := by decide +kernel
theorem d_Mo_readAll_20 : decode b_Mo_readAll 20 = .ok (.invokevirtual 206, 3) := by decide +kernel
theorem d_Mo_readAll_23 : decode b_Mo_readAll 23 = .ok (.aload_n 0, 1) := by decide +kernel
theorem d_Mo_readAll_24 : decode b_Mo_readAll 24 = .ok (.getfield 85, 3) := by decide +kernel
theorem d_Mo_readAll_27 : decode b_Mo_readAll 27 = .ok (.iconst 2, 1) := by decide +kernel
theorem d_Mo_readAll_28 : decode b_Mo_readAll 28 = .ok (.aload_n 0, 1) := by decide +kernel
theorem d_Mo_readAll_29 : decode b_Mo_readAll 29 = .ok (.iconst 2, 1) := by decide +kernel
theorem d_Mo_readAll_30 : decode b_Mo_readAll 30 = .ok (.invokevirtual 213, 3) := by decide +kernel
theorem d_Mo_readAll_33 : decode b_Mo_readAll 33 = .ok (.iastore, 1) := by decide +kernel
theorem d_Mo_readAll_34 : decode b_Mo_readAll 34 = .ok (.aload_n 0, 1) := by decide +kernel
theorem d_Mo_readAll_35 : decode b_Mo_readAll 35 = .ok (.getfield 85, 3) := by decide +kernel
theorem d_Mo_readAll_38 : decode b_Mo_readAll 38 = .ok (.iconst 1, 1) := by decide +kernel
theorem d_Mo_readAll_39 : decode b_Mo_readAll 39 = .ok (.aload_n 0, 1) := by decide +kernel
theorem d_Mo_readAll_40 : decode b_Mo_readAll 40 = .ok (.invokevirtual 209, 3) := by decide +kernel
theorem d_Mo_readAll_43 : decode b_Mo_readAll 43 = .ok (.iastore, 1) := by decide +kernel
theorem d_Mo_readAll_44 : decode b_Mo_readAll 44 = .ok (.aload_n 0, 1) := by decide +kernel
theorem d_Mo_readAll_45 : decode b_Mo_readAll 45 = .ok (.getfield 85, 3) := by decide +kernel
theorem d_Mo_readAll_48 : decode b_Mo_readAll 48 = .ok (.iconst 0, 1) := by decide +kernel
theorem d_Mo_readAll_49 : decode b_Mo_readAll 49 = .ok (.aload_n 0, 1) := by decide +kernel
theorem d_Mo_readAll_50 : decode b_Mo_readAll 50 = .ok (.iconst 2, 1) := by decide +kernel
theorem d_Mo_readAll_51 : decode b_Mo_readAll 51 = .ok (.invokevirtual 213, 3) := by decide +kernel
theorem d_Mo_readAll_54 : decode b_Mo_readAll 54 = .ok (.iastore, 1) := by decide +kernel
theorem d_Mo_readAll_55 : decode b_Mo_readAll 55 = .ok (.aload_n 0, 1) := by decide +kernel
theorem d_Mo_readAll_56 : decode b_Mo_readAll 56 = .ok (.getfield 85, 3) := by decide +kernel
theorem d_Mo_readAll_59 : decode b_Mo_readAll 59 = .ok (.iconst 3, 1) := by decide +kernel
theorem d_Mo_readAll_60 : decode b_Mo_readAll 60 = .ok (.aload_n 0, 1) := by decide +kernel
theorem d_Mo_readAll_61 : decode b_Mo_readAll 61 = .ok (.iconst 3, 1) := by decide +kernel
theorem d_Mo_readAll_62 : decode b_Mo_readAll 62 = .ok (.invokevirtual 213, 3) := by decide +kernel
theorem d_Mo_readAll_65 : decode b_Mo_readAll 65 = .ok (.iastore, 1) := by decide +kernel
theorem d_Mo_readAll_66 : decode b_Mo_readAll 66 = .ok (.aload_n 0, 1) := by decide +kernel
theorem d_Mo_readAll_67 : decode b_Mo_readAll 67 = .ok (.getfield 200, 3) := by decide +kernel
theorem d_Mo_readAll_70 : decode b_Mo_readAll 70 = .ok (.ifCond .ne 18, 3) := by decide +kernel
theorem d_Mo_readAll_73 : decode b_Mo_readAll 73 = .ok (.aload_n 0, 1) := by decide +kernel
theorem d_Mo_readAll_74 : decode b_Mo_readAll 74 = .ok (.getfield 85, 3) := by decide +kernel
theorem d_Mo_readAll_77 : decode b_Mo_readAll 77 = .ok (.iconst 3, 1) := by decide +kernel
theorem d_Mo_readAll_78 : decode b_Mo_readAll 78 = .ok (.iaload, 1) := by decide +kernel
theorem d_Mo_readAll_79 : decode b_Mo_readAll 79 = .ok (.iconst 4, 1) := by decide +kernel
theorem d_Mo_readAll_80 : decode b_Mo_readAll 80 = .ok (.if_icmp .le 8, 3) := by decide +kernel
theorem d_Mo_readAll_83 : decode b_Mo_readAll 83 = .ok (.aload_n 0, 1) := by decide +kernel
theorem d_Mo_readAll_84 : decode b_Mo_readAll 84 = .ok (.iconst 3, 1) := by decide +kernel
theorem d_Mo_readAll_85 : decode b_Mo_readAll 85 = .ok (.invokevirtual 206, 3) := by decide +kernel
theorem d_Mo_readAll_88 : decode b_Mo_readAll 88 = .ok (.aload_n 0, 1) := by decide +kernel
theorem d_Mo_readAll_89 : decode b_Mo_readAll 89 = .ok (.invokevirtual 166, 3) := by decide +kernel
theorem d_Mo_readAll_92 : decode b_Mo_readAll 92 = .ok (.aload_n 0, 1) := by decide +kernel
theorem d_Mo_readAll_93 : decode b_Mo_readAll 93 = .ok (.getfield 98, 3) := by decide +kernel
theorem d_Mo_readAll_96 : decode b_Mo_readAll 96 = .ok (.ifCond .ne 15, 3) := by decide +kernel
theorem d_Mo_readAll_99 : decode b_Mo_readAll 99 = .ok (.aload_n 0, 1) := by decide +kernel
theorem d_Mo_readAll_100 : decode b_Mo_readAll 100 = .ok (.getfield 200, 3) := by decide +kernel
theorem d_Mo_readAll_103 : decode b_Mo_readAll 103 = .ok (.ifCond .ne 8, 3) := by decide +kernel
theorem d_Mo_readAll_106 : decode b_Mo_readAll 106 = .ok (.aload_n 0, 1) := by decide +kernel
theorem d_Mo_readAll_107 : decode b_Mo_readAll 107 = .ok (.iload_n 1, 1) := by decide +kernel
theorem d_Mo_readAll_108 : decode b_Mo_readAll 108 = .ok (.invokevirtual 230, 3) := by decide +kernel
theorem d_Mo_readAll_111 : decode b_Mo_readAll 111 = .ok (.iconst 0, 1) := by decide +kernel
theorem d_Mo_readAll_112 : decode b_Mo_readAll 112 = .ok (.istore_n 2, 1) := by decide +kernel
theorem d_Mo_readAll_113 : decode b_Mo_readAll 113 = .ok (.iconst 0, 1) := by decide +kernel
theorem d_Mo_readAll_114 : decode b_Mo_readAll 114 = .ok (.istore_n 3, 1) := by decide +kernel
theorem d_Mo_readAll_115 : decode b_Mo_readAll 115 = .ok (.iconst 1, 1) := by decide +kernel
theorem d_Mo_readAll_116 : decode b_Mo_readAll 116 = .ok (.istore 4, 2) := by decide +kernel
theorem d_Mo_readAll_118 : decode b_Mo_readAll 118 = .ok (.aload_n 0, 1) := by decide +kernel
theorem d_Mo_readAll_119 : decode b_Mo_readAll 119 = .ok (.getfield 200, 3) := by decide +kernel
theorem d_Mo_readAll_122 : decode b_Mo_readAll 122 = .ok (.ifCond .ne 195, 3) := by decide +kernel
theorem d_Mo_readAll_125 : decode b_Mo_readAll 125 = .ok (.aload_n 0, 1) := by decide +kernel
theorem d_Mo_readAll_126 : decode b_Mo_readAll 126 = .ok (.getfield 223, 3) := by decide +kernel
theorem d_Mo_readAll_129 : decode b_Mo_readAll 129 = .ok (.iload_n 1, 1) := by decide +kernel
theorem d_Mo_readAll_130 : decode b_Mo_readAll 130 = .ok (.if_icmp .ge 187, 3) := by decide +kernel
theorem d_Mo_readAll_133 : decode b_Mo_readAll 133 = .ok (.aload_n 0, 1) := by decide +kernel
theorem d_Mo_readAll_134 : decode b_Mo_readAll 134 = .ok (.invokevirtual 216, 3) := by decide +kernel
theorem d_Mo_readAll_137 : decode b_Mo_readAll 137 = .ok (.istore 5, 2) := by decide +kernel
theorem d_Mo_readAll_139 : decode b_Mo_readAll 139 = .ok (.iload 4, 2) := by decide +kernel
theorem d_Mo_readAll_141 : decode b_Mo_readAll 141 = .ok (.ifCond .eq 11, 3) := by decide +kernel
theorem d_Mo_readAll_144 : decode b_Mo_readAll 144 = .ok (.iload 5, 2) := by decide +kernel
theorem d_Mo_readAll_146 : decode b_Mo_readAll 146 = .ok (.bipush 16, 2) := by decide +kernel
theorem d_Mo_readAll_148 : decode b_Mo_readAll 148 = .ok (.isub, 1) := by decide +kernel
theorem d_Mo_readAll_149 : decode b_Mo_readAll 149 = .ok (.goto 9, 3) := by decide +kernel
theorem d_Mo_readAll_152 : decode b_Mo_readAll 152 = .ok (.iload_n 2, 1) := by decide +kernel
theorem d_Mo_readAll_153 : decode b_Mo_readAll 153 = .ok (.iconst 1, 1) := by decide +kernel
theorem d_Mo_readAll_154 : decode b_Mo_readAll 154 = .ok (.iadd, 1) := by decide +kernel
theorem d_Mo_readAll_155 : decode b_Mo_readAll 155 = .ok (.iload 5, 2) := by decide +kernel
theorem d_Mo_readAll_157 : decode b_Mo_readAll 157 = .ok (.iadd, 1) := by decide +kernel
theorem d_Mo_readAll_158 : decode b_Mo_readAll 158 = .ok (.istore_n 2, 1) := by decide +kernel
theorem d_Mo_readAll_159 : decode b_Mo_readAll 159 = .ok (.iconst 0, 1) := by decide +kernel
theorem d_Mo_readAll_160 : decode b_Mo_readAll 160 = .ok (.istore 4, 2) := by decide +kernel
theorem d_Mo_readAll_162 : decode b_Mo_readAll 162 = .ok (.iload_n 3, 1) := by decide +kernel
theorem d_Mo_readAll_163 : decode b_Mo_readAll 163 = .ok (.aload_n 0, 1) := by decide +kernel
theorem d_Mo_readAll_164 : decode b_Mo_readAll 164 = .ok (.invokevirtual 233, 3) := by decide +kernel
theorem d_Mo_readAll_167 : decode b_Mo_readAll 167 = .ok (.iadd, 1) := by decide +kernel
theorem d_Mo_readAll_168 : decode b_Mo_readAll 168 = .ok (.istore 6, 2) := by decide +kernel
theorem d_Mo_readAll_170 : decode b_Mo_readAll 170 = .ok (.iload 6, 2) := by decide +kernel
theorem d_Mo_readAll_172 : decode b_Mo_readAll 172 = .ok (.istore_n 3, 1) := by decide +kernel
theorem d_Mo_readAll_173 : decode b_Mo_readAll 173 = .ok (.aload_n 0, 1) := by decide +kernel
theorem d_Mo_readAll_174 : decode b_Mo_readAll 174 = .ok (.getfield 200, 3) := by decide +kernel
theorem d_Mo_readAll_177 : decode b_Mo_readAll 177 = .ok (.ifCond .ne 7, 3) := by decide +kernel
theorem d_Mo_readAll_180 : decode b_Mo_readAll 180 = .ok (.iconst 1, 1) := by decide +kernel
theorem d_Mo_readAll_181 : decode b_Mo_readAll 181 = .ok (.goto 4, 3) := by decide +kernel
theorem d_Mo_readAll_184 : decode b_Mo_readAll 184 = .ok (.iconst 0, 1) := by decide +kernel
theorem d_Mo_readAll_185 : decode b_Mo_readAll 185 = .ok (.istore 7, 2) := by decide +kernel
theorem d_Mo_readAll_187 : decode b_Mo_readAll 187 = .ok (.iload 7, 2) := by decide +kernel
theorem d_Mo_readAll_189 : decode b_Mo_readAll 189 = .ok (.ifCond .eq 125, 3) := by decide +kernel
theorem d_Mo_readAll_192 : decode b_Mo_readAll 192 = .ok (.aload_n 0, 1) := by decide +kernel
theorem d_Mo_readAll_193 : decode b_Mo_readAll 193 = .ok (.iload 6, 2) := by decide +kernel
theorem d_Mo_readAll_195 : decode b_Mo_readAll 195 = .ok (.iload_n 2, 1) := by decide +kernel
theorem d_Mo_readAll_196 : decode b_Mo_readAll 196 = .ok (.invokevirtual 236, 3) := by decide +kernel
theorem d_Mo_readAll_199 : decode b_Mo_readAll 199 = .ok (.aload_n 0, 1) := by decide +kernel
theorem d_Mo_readAll_200 : decode b_Mo_readAll 200 = .ok (.getfield 200, 3) := by decide +kernel
theorem d_Mo_readAll_203 : decode b_Mo_readAll 203 = .ok (.ifCond .ne 15, 3) := by decide +kernel
theorem d_Mo_readAll_206 : decode b_Mo_readAll 206 = .ok (.aload_n 0, 1) := by decide +kernel
theorem d_Mo_readAll_207 : decode b_Mo_readAll 207 = .ok (.invokevirtual 209, 3) := by decide +kernel
theorem d_Mo_readAll_210 : decode b_Mo_readAll 210 = .ok (.iconst 1, 1) := by decide +kernel
theorem d_Mo_readAll_211 : decode b_Mo_readAll 211 = .ok (.if_icmp .ne 7, 3) := by decide +kernel
theorem d_Mo_readAll_214 : decode b_Mo_readAll 214 = .ok (.iconst 1, 1) := by decide +kernel
theorem d_Mo_readAll_215 : decode b_Mo_readAll 215 = .ok (.goto 4, 3) := by decide +kernel
theorem d_Mo_readAll_218 : decode b_Mo_readAll 218 = .ok (.iconst 0, 1) := by decide +kernel
theorem d_Mo_readAll_219 : decode b_Mo_readAll 219 = .ok (.istore 7, 2) := by decide +kernel
theorem d_Mo_readAll_221 : decode b_Mo_readAll 221 = .ok (.iload 7, 2) := by decide +kernel
theorem d_Mo_readAll_223 : decode b_Mo_readAll 223 = .ok (.ifCond .eq 19, 3) := by decide +kernel
theorem d_Mo_readAll_226 : decode b_Mo_readAll 226 = .ok (.aload_n 0, 1) := by decide +kernel
theorem d_Mo_readAll_227 : decode b_Mo_readAll 227 = .ok (.getfield 223, 3) := by decide +kernel
theorem d_Mo_readAll_230 : decode b_Mo_readAll 230 = .ok (.iload_n 1, 1) := by decide +kernel
theorem d_Mo_readAll_231 : decode b_Mo_readAll 231 = .ok (.if_icmp .ne 11, 3) := by decide +kernel
theorem d_Mo_readAll_234 : decode b_Mo_readAll 234 = .ok (.aload_n 0, 1) := by decide +kernel
theorem d_Mo_readAll_235 : decode b_Mo_readAll 235 = .ok (.iconst 2, 1) := by decide +kernel
theorem d_Mo_readAll_236 : decode b_Mo_readAll 236 = .ok (.invokevirtual 206, 3) := by decide +kernel
theorem d_Mo_readAll_239 : decode b_Mo_readAll 239 = .ok (.iconst 0, 1) := by decide +kernel
theorem d_Mo_readAll_240 : decode b_Mo_readAll 240 = .ok (.istore 7, 2) := by decide +kernel
theorem d_Mo_readAll_242 : decode b_Mo_readAll 242 = .ok (.iload 7, 2) := by decide +kernel
theorem d_Mo_readAll_244 : decode b_Mo_readAll 244 = .ok (.ifCond .eq (-57), 3) := by decide +kernel
theorem d_Mo_readAll_247 : decode b_Mo_readAll 247 = .ok (.aload_n 0, 1) := by decide +kernel
theorem d_Mo_readAll_248 : decode b_Mo_readAll 248 = .ok (.getfield 73, 3) := by decide +kernel
theorem d_Mo_readAll_251 : decode b_Mo_readAll 251 = .ok (.aload_n 0, 1) := by decide +kernel
theorem d_Mo_readAll_252 : decode b_Mo_readAll 252 = .ok (.getfield 223, 3) := by decide +kernel
theorem d_Mo_readAll_255 : decode b_Mo_readAll 255 = .ok (.iconst 1, 1) := by decide +kernel
theorem d_Mo_readAll_256 : decode b_Mo_readAll 256 = .ok (.isub, 1) := by decide +kernel
theorem d_Mo_readAll_257 : decode b_Mo_readAll 257 = .ok (.iaload, 1) := by decide +kernel
theorem d_Mo_readAll_258 : decode b_Mo_readAll 258 = .ok (.istore 8, 2) := by decide +kernel
theorem d_Mo_readAll_260 : decode b_Mo_readAll 260 = .ok (.iload 6, 2) := by decide +kernel
theorem d_Mo_readAll_262 : decode b_Mo_readAll 262 = .ok (.aload_n 0, 1) := by decide +kernel
theorem d_Mo_readAll_263 : decode b_Mo_readAll 263 = .ok (.getfield 85, 3) := by decide +kernel
theorem d_Mo_readAll_266 : decode b_Mo_readAll 266 = .ok (.iconst 1, 1) := by decide +kernel
theorem d_Mo_readAll_267 : decode b_Mo_readAll 267 = .ok (.iaload, 1) := by decide +kernel
theorem d_Mo_readAll_268 : decode b_Mo_readAll 268 = .ok (.iconst 1, 1) := by decide +kernel
theorem d_Mo_readAll_269 : decode b_Mo_readAll 269 = .ok (.if_icmp .ne 13, 3) := by decide +kernel
theorem d_Mo_readAll_272 : decode b_Mo_readAll 272 = .ok (.aload_n 0, 1) := by decide +kernel
theorem d_Mo_readAll_273 : decode b_Mo_readAll 273 = .ok (.getfield 13, 3) := by decide +kernel
theorem d_Mo_readAll_276 : decode b_Mo_readAll 276 = .ok (.iload 8, 2) := by decide +kernel
theorem d_Mo_readAll_278 : decode b_Mo_readAll 278 = .ok (.iaload, 1) := by decide +kernel
theorem d_Mo_readAll_279 : decode b_Mo_readAll 279 = .ok (.goto 10, 3) := by decide +kernel
theorem d_Mo_readAll_282 : decode b_Mo_readAll 282 = .ok (.aload_n 0, 1) := by decide +kernel
theorem d_Mo_readAll_283 : decode b_Mo_readAll 283 = .ok (.getfield 7, 3) := by decide +kernel
theorem d_Mo_readAll_286 : decode b_Mo_readAll 286 = .ok (.iload 8, 2) := by decide +kernel
theorem d_Mo_readAll_288 : decode b_Mo_readAll 288 = .ok (.iaload, 1) := by decide +kernel
theorem d_Mo_readAll_289 : decode b_Mo_readAll 289 = .ok (.iadd, 1) := by decide +kernel
theorem d_Mo_readAll_290 : decode b_Mo_readAll 290 = .ok (.aload_n 0, 1) := by decide +kernel
theorem d_Mo_readAll_291 : decode b_Mo_readAll 291 = .ok (.invokevirtual 233, 3) := by decide +kernel
theorem d_Mo_readAll_294 : decode b_Mo_readAll 294 = .ok (.iadd, 1) := by decide +kernel
theorem d_Mo_readAll_295 : decode b_Mo_readAll 295 = .ok (.istore 6, 2) := by decide +kernel
theorem d_Mo_readAll_297 : decode b_Mo_readAll 297 = .ok (.aload_n 0, 1) := by decide +kernel
theorem d_Mo_readAll_298 : decode b_Mo_readAll 298 = .ok (.getfield 200, 3) := by decide +kernel
theorem d_Mo_readAll_301 : decode b_Mo_readAll 301 = .ok (.ifCond .ne 7, 3) := by decide +kernel
theorem d_Mo_readAll_304 : decode b_Mo_readAll 304 = .ok (.iconst 1, 1) := by decide +kernel
theorem d_Mo_readAll_305 : decode b_Mo_readAll 305 = .ok (.goto 4, 3) := by decide +kernel
theorem d_Mo_readAll_308 : decode b_Mo_readAll 308 = .ok (.iconst 0, 1) := by decide +kernel
theorem d_Mo_readAll_309 : decode b_Mo_readAll 309 = .ok (.istore 7, 2) := by decide +kernel
theorem d_Mo_readAll_311 : decode b_Mo_readAll 311 = .ok (.goto (-124), 3) := by decide +kernel
theorem d_Mo_readAll_314 : decode b_Mo_readAll 314 = .ok (.goto (-196), 3) := by decide +kernel
theorem d_Mo_readAll_317 : decode b_Mo_readAll 317 = .ok (.aload_n 0, 1) := by decide +kernel
theorem d_Mo_readAll_318 : decode b_Mo_readAll 318 = .ok (.getfield 200, 3) := by decide +kernel
theorem d_Mo_readAll_321 : decode b_Mo_readAll 321 = .ok (.ifCond .ne 30, 3) := by decide +kernel
theorem d_Mo_readAll_324 : decode b_Mo_readAll 324 = .ok (.aload_n 0, 1) := by decide +kernel
theorem d_Mo_readAll_325 : decode b_Mo_readAll 325 = .ok (.getfield 203, 3) := by decide +kernel
theorem d_Mo_readAll_328 : decode b_Mo_readAll 328 = .ok (.bipush 8, 2) := by decide +kernel
theorem d_Mo_readAll_330 : decode b_Mo_readAll 330 = .ok (.irem, 1) := by decide +kernel
theorem d_Mo_readAll_331 : decode b_Mo_readAll 331 = .ok (.ifCond .le 20, 3) := by decide +kernel
theorem d_Mo_readAll_334 : decode b_Mo_readAll 334 = .ok (.aload_n 0, 1) := by decide +kernel
theorem d_Mo_readAll_335 : decode b_Mo_readAll 335 = .ok (.invokevirtual 209, 3) := by decide +kernel
theorem d_Mo_readAll_338 : decode b_Mo_readAll 338 = .ok (.iconst 1, 1) := by decide +kernel
theorem d_Mo_readAll_339 : decode b_Mo_readAll 339 = .ok (.if_icmp .ne (-22), 3) := by decide +kernel
theorem d_Mo_readAll_342 : decode b_Mo_readAll 342 = .ok (.aload_n 0, 1) := by decide +kernel
theorem d_Mo_readAll_343 : decode b_Mo_readAll 343 = .ok (.bipush 9, 2) := by decide +kernel
theorem d_Mo_readAll_345 : decode b_Mo_readAll 345 = .ok (.invokevirtual 206, 3) := by decide +kernel
theorem d_Mo_readAll_348 : decode b_Mo_readAll 348 = .ok (.goto (-31), 3) := by decide +kernel
theorem d_Mo_readAll_351 : decode b_Mo_readAll 351 = .ok (.aload_n 0, 1) := by decide +kernel
theorem d_Mo_readAll_352 : decode b_Mo_readAll 352 = .ok (.getfield 200, 3) := by decide +kernel
theorem d_Mo_readAll_355 : decode b_Mo_readAll 355 = .ok (.ifCond .ne 23, 3) := by decide +kernel
theorem d_Mo_readAll_358 : decode b_Mo_readAll 358 = .ok (.aload_n 0, 1) := by decide +kernel
theorem d_Mo_readAll_359 : decode b_Mo_readAll 359 = .ok (.getfield 203, 3) := by decide +kernel
theorem d_Mo_readAll_362 : decode b_Mo_readAll 362 = .ok (.bipush 8, 2) := by decide +kernel
theorem d_Mo_readAll_364 : decode b_Mo_readAll 364 = .ok (.aload_n 0, 1) := by decide +kernel
theorem d_Mo_readAll_365 : decode b_Mo_readAll 365 = .ok (.getfield 197, 3) := by decide +kernel
theorem d_Mo_readAll_368 : decode b_Mo_readAll 368 = .ok (.imul, 1) := by decide +kernel
theorem d_Mo_readAll_369 : decode b_Mo_readAll 369 = .ok (.if_icmp .ge 9, 3) := by decide +kernel
theorem d_Mo_readAll_372 : decode b_Mo_readAll 372 = .ok (.aload_n 0, 1) := by decide +kernel
theorem d_Mo_readAll_373 : decode b_Mo_readAll 373 = .ok (.bipush 9, 2) := by decide +kernel
theorem d_Mo_readAll_375 : decode b_Mo_readAll 375 = .ok (.invokevirtual 206, 3) := by decide +kernel
theorem d_Mo_readAll_378 : decode b_Mo_readAll 378 = .ok (.return_, 1) := by decide +kernel
theorem d_Mo_read_0 : decode b_Mo_read 0 = .ok (.aload_n 0, 1) := by decide +kernel
theorem d_Mo_read_1 : decode b_Mo_read 1 = .ok (.iconst 0, 1) := by decide +kernel
theorem d_Mo_read_2 : decode b_Mo_read 2 = .ok (.putfield 101, 3) := by decide +kernel
theorem d_Mo_read_5 : decode b_Mo_read 5 = .ok (.aload_n 0, 1) := by decide +kernel
theorem d_Mo_read_6 : decode b_Mo_read 6 = .ok (.iconst 0, 1) := by decide +kernel
theorem d_Mo_read_7 : decode b_Mo_read 7 = .ok (.putfield 203, 3) := by decide +kernel
theorem d_Mo_read_10 : decode b_Mo_read 10 = .ok (.aload_n 0, 1) := by decide +kernel
theorem d_Mo_read_11 : decode b_Mo_read 11 = .ok (.iconst 0, 1) := by decide +kernel
theorem d_Mo_read_12 : decode b_Mo_read 12 = .ok (.putfield 200, 3) := by decide +kernel
theorem d_Mo_read_15 : decode b_Mo_read 15 = .ok (.aload_n 0, 1) := by decide +kernel
theorem d_Mo_read_16 : decode b_Mo_read 16 = .ok (.iconst 0, 1) := by decide +kernel
theorem d_Mo_read_17 : decode b_Mo_read 17 = .ok (.putfield 223, 3) := by decide +kernel
theorem d_Mo_read_20 : decode b_Mo_read 20 = .ok (.aload_n 0, 1) := by decide +kernel
theorem d_Mo_read_21 : decode b_Mo_read 21 = .ok (.invokevirtual 239, 3) := by decide +kernel
theorem d_Mo_read_24 : decode b_Mo_read 24 = .ok (.aload_n 0, 1) := by decide +kernel
theorem d_Mo_read_25 : decode b_Mo_read 25 = .ok (.iconst 0, 1) := by decide +kernel
theorem d_Mo_read_26 : decode b_Mo_read 26 = .ok (.putfield 197, 3) := by decide +kernel
theorem d_Mo_read_29 : decode b_Mo_read 29 = .ok (.aload_n 0, 1) := by decide +kernel
theorem d_Mo_read_30 : decode b_Mo_read 30 = .ok (.aload_n 0, 1) := by decide +kernel
theorem d_Mo_read_31 : decode b_Mo_read 31 = .ok (.getfield 200, 3) := by decide +kernel
theorem d_Mo_read_34 : decode b_Mo_read 34 = .ok (.ifCond .le 10, 3) := by decide +kernel
theorem d_Mo_read_37 : decode b_Mo_read 37 = .ok (.aload_n 0, 1) := by decide +kernel
theorem d_Mo_read_38 : decode b_Mo_read 38 = .ok (.getfield 203, 3) := by decide +kernel
theorem d_Mo_read_41 : decode b_Mo_read 41 = .ok (.goto 4, 3) := by decide +kernel
theorem d_Mo_read_44 : decode b_Mo_read 44 = .ok (.iconst (-1), 1) := by decide +kernel
theorem d_Mo_read_45 : decode b_Mo_read 45 = .ok (.putfield 69, 3) := by decide +kernel
theorem d_Mo_read_48 : decode b_Mo_read 48 = .ok (.aload_n 0, 1) := by decide +kernel
theorem d_Mo_read_49 : decode b_Mo_read 49 = .ok (.getfield 200, 3) := by decide +kernel
theorem d_Mo_read_52 : decode b_Mo_read 52 = .ok (.ifCond .le 10, 3) := by decide +kernel
theorem d_Mo_read_55 : decode b_Mo_read 55 = .ok (.iconst (-1), 1) := by decide +kernel
theorem d_Mo_read_56 : decode b_Mo_read 56 = .ok (.aload_n 0, 1) := by decide +kernel
theorem d_Mo_read_57 : decode b_Mo_read 57 = .ok (.getfield 200, 3) := by decide +kernel
theorem d_Mo_read_60 : decode b_Mo_read 60 = .ok (.isub, 1) := by decide +kernel
theorem d_Mo_read_61 : decode b_Mo_read 61 = .ok (.ireturn, 1) := by decide +kernel
theorem d_Mo_read_62 : decode b_Mo_read 62 = .ok (.aload_n 0, 1) := by decide +kernel
theorem d_Mo_read_63 : decode b_Mo_read 63 = .ok (.aload_n 0, 1) := by decide +kernel
theorem d_Mo_read_64 : decode b_Mo_read 64 = .ok (.getfield 223, 3) := by decide +kernel
theorem d_Mo_read_67 : decode b_Mo_read 67 = .ok (.putfield 116, 3) := by decide +kernel
theorem d_Mo_read_70 : decode b_Mo_read 70 = .ok (.iconst 0, 1) := by decide +kernel
theorem d_Mo_read_71 : decode b_Mo_read 71 = .ok (.istore_n 1, 1) := by decide +kernel
theorem d_Mo_read_72 : decode b_Mo_read 72 = .ok (.iload_n 1, 1) := by decide +kernel
theorem d_Mo_read_73 : decode b_Mo_read 73 = .ok (.aload_n 0, 1) := by decide +kernel
theorem d_Mo_read_74 : decode b_Mo_read 74 = .ok (.getfield 223, 3) := by decide +kernel
theorem d_Mo_read_77 : decode b_Mo_read 77 = .ok (.if_icmp .ge 57, 3) := by decide +kernel
theorem d_Mo_read_80 : decode b_Mo_read 80 = .ok (.aload_n 0, 1) := by decide +kernel
theorem d_Mo_read_81 : decode b_Mo_read 81 = .ok (.getfield 20, 3) := by decide +kernel
theorem d_Mo_read_84 : decode b_Mo_read 84 = .ok (.iload_n 1, 1) := by decide +kernel
theorem d_Mo_read_85 : decode b_Mo_read 85 = .ok (.aload_n 0, 1) := by decide +kernel
theorem d_Mo_read_86 : decode b_Mo_read 86 = .ok (.getfield 73, 3) := by decide +kernel
theorem d_Mo_read_89 : decode b_Mo_read 89 = .ok (.iload_n 1, 1) := by decide +kernel
theorem d_Mo_read_90 : decode b_Mo_read 90 = .ok (.iaload, 1) := by decide +kernel
theorem d_Mo_read_91 : decode b_Mo_read 91 = .ok (.iastore, 1) := by decide +kernel
theorem d_Mo_read_92 : decode b_Mo_read 92 = .ok (.aload_n 0, 1) := by decide +kernel
theorem d_Mo_read_93 : decode b_Mo_read 93 = .ok (.getfield 23, 3) := by decide +kernel
theorem d_Mo_read_96 : decode b_Mo_read 96 = .ok (.iload_n 1, 1) := by decide +kernel
theorem d_Mo_read_97 : decode b_Mo_read 97 = .ok (.aload_n 0, 1) := by decide +kernel
theorem d_Mo_read_98 : decode b_Mo_read 98 = .ok (.getfield 76, 3) := by decide +kernel
theorem d_Mo_read_101 : decode b_Mo_read 101 = .ok (.iload_n 1, 1) := by decide +kernel
theorem d_Mo_read_102 : decode b_Mo_read 102 = .ok (.iaload, 1) := by decide +kernel
theorem d_Mo_read_103 : decode b_Mo_read 103 = .ok (.iastore, 1) := by decide +kernel
theorem d_Mo_read_104 : decode b_Mo_read 104 = .ok (.aload_n 0, 1) := by decide +kernel
theorem d_Mo_read_105 : decode b_Mo_read 105 = .ok (.getfield 26, 3) := by decide +kernel
theorem d_Mo_read_108 : decode b_Mo_read 108 = .ok (.iload_n 1, 1) := by decide +kernel
theorem d_Mo_read_109 : decode b_Mo_read 109 = .ok (.aload_n 0, 1) := by decide +kernel
theorem d_Mo_read_110 : decode b_Mo_read 110 = .ok (.getfield 79, 3) := by decide +kernel
theorem d_Mo_read_113 : decode b_Mo_read 113 = .ok (.iload_n 1, 1) := by decide +kernel
theorem d_Mo_read_114 : decode b_Mo_read 114 = .ok (.iaload, 1) := by decide +kernel
theorem d_Mo_read_115 : decode b_Mo_read 115 = .ok (.iastore, 1) := by decide +kernel
theorem d_Mo_read_116 : decode b_Mo_read 116 = .ok (.aload_n 0, 1) := by decide +kernel
theorem d_Mo_read_117 : decode b_Mo_read 117 = .ok (.getfield 29, 3) := by decide +kernel
theorem d_Mo_read_120 : decode b_Mo_read 120 = .ok (.iload_n 1, 1) := by decide +kernel
theorem d_Mo_read_121 : decode b_Mo_read 121 = .ok (.aload_n 0, 1) := by decide +kernel
theorem d_Mo_read_122 : decode b_Mo_read 122 = .ok (.getfield 82, 3) := by decide +kernel
theorem d_Mo_read_125 : decode b_Mo_read 125 = .ok (.iload_n 1, 1) := by decide +kernel
theorem d_Mo_read_126 : decode b_Mo_read 126 = .ok (.laload, 1) := by decide +kernel
theorem d_Mo_read_127 : decode b_Mo_read 127 = .ok (.lastore, 1) := by decide +kernel
theorem d_Mo_read_128 : decode b_Mo_read 128 = .ok (.iinc 1 1, 3) := by decide +kernel
theorem d_Mo_read_131 : decode b_Mo_read 131 = .ok (.goto (-59), 3) := by decide +kernel
theorem d_Mo_read_134 : decode b_Mo_read 134 = .ok (.iconst 0, 1) := by decide +kernel
theorem d_Mo_read_135 : decode b_Mo_read 135 = .ok (.istore_n 1, 1) := by decide +kernel
theorem d_Mo_read_136 : decode b_Mo_read 136 = .ok (.iload_n 1, 1) := by decide +kernel
theorem d_Mo_read_137 : decode b_Mo_read 137 = .ok (.iconst 4, 1) := by decide +kernel
theorem d_Mo_read_138 : decode b_Mo_read 138 = .ok (.if_icmp .ge 21, 3) := by decide +kernel
theorem d_Mo_read_141 : decode b_Mo_read 141 = .ok (.aload_n 0, 1) := by decide +kernel
theorem d_Mo_read_142 : decode b_Mo_read 142 = .ok (.getfield 32, 3) := by decide +kernel
theorem d_Mo_read_145 : decode b_Mo_read 145 = .ok (.iload_n 1, 1) := by decide +kernel
theorem d_Mo_read_146 : decode b_Mo_read 146 = .ok (.aload_n 0, 1) := by decide +kernel
theorem d_Mo_read_147 : decode b_Mo_read 147 = .ok (.getfield 85, 3) := by decide +kernel
theorem d_Mo_read_150 : decode b_Mo_read 150 = .ok (.iload_n 1, 1) := by decide +kernel
theorem d_Mo_read_151 : decode b_Mo_read 151 = .ok (.iaload, 1) := by decide +kernel
theorem d_Mo_read_152 : decode b_Mo_read 152 = .ok (.iastore, 1) := by decide +kernel
theorem d_Mo_read_153 : decode b_Mo_read 153 = .ok (.iinc 1 1, 3) := by decide +kernel
theorem d_Mo_read_156 : decode b_Mo_read 156 = .ok (.goto (-20), 3) := by decide +kernel
theorem d_Mo_read_159 : decode b_Mo_read 159 = .ok (.aload_n 0, 1) := by decide +kernel
theorem d_Mo_read_160 : decode b_Mo_read 160 = .ok (.getfield 116, 3) := by decide +kernel
theorem d_Mo_read_163 : decode b_Mo_read 163 = .ok (.ireturn, 1) := by decide +kernel
theorem d_Mo_place_0 : decode b_Mo_place 0 = .ok (.aload_n 0, 1) := by decide +kernel
theorem d_Mo_place_1 : decode b_Mo_place 1 = .ok (.aload_n 0, 1) := by decide +kernel
theorem d_Mo_place_2 : decode b_Mo_place 2 = .ok (.iload_n 1, 1) := by decide +kernel
theorem d_Mo_place_3 : decode b_Mo_place 3 = .ok (.invokevirtual 119, 3) := by decide +kernel
theorem d_Mo_place_6 : decode b_Mo_place 6 = .ok (.ifCond .eq 7, 3) := by decide +kernel
theorem d_Mo_place_9 : decode b_Mo_place 9 = .ok (.iconst 0, 1) := by decide +kernel
theorem d_Mo_place_10 : decode b_Mo_place 10 = .ok (.goto 4, 3) := by decide +kernel
theorem d_Mo_place_13 : decode b_Mo_place 13 = .ok (.iconst 1, 1) := by decide +kernel
theorem d_Mo_place_14 : decode b_Mo_place 14 = .ok (.putfield 101, 3) := by decide +kernel
theorem d_Mo_place_17 : decode b_Mo_place 17 = .ok (.aload_n 0, 1) := by decide +kernel
theorem d_Mo_place_18 : decode b_Mo_place 18 = .ok (.getfield 101, 3) := by decide +kernel
theorem d_Mo_place_21 : decode b_Mo_place 21 = .ok (.ifCond .le 5, 3) := by decide +kernel
theorem d_Mo_place_24 : decode b_Mo_place 24 = .ok (.iconst 0, 1) := by decide +kernel
theorem d_Mo_place_25 : decode b_Mo_place 25 = .ok (.ireturn, 1) := by decide +kernel
theorem d_Mo_place_26 : decode b_Mo_place 26 = .ok (.iload_n 2, 1) := by decide +kernel
theorem d_Mo_place_27 : decode b_Mo_place 27 = .ok (.ifCond .ne 10, 3) := by decide +kernel
theorem d_Mo_place_30 : decode b_Mo_place 30 = .ok (.aload_n 0, 1) := by decide +kernel
theorem d_Mo_place_31 : decode b_Mo_place 31 = .ok (.getfield 20, 3) := by decide +kernel
theorem d_Mo_place_34 : decode b_Mo_place 34 = .ok (.iload_n 1, 1) := by decide +kernel
theorem d_Mo_place_35 : decode b_Mo_place 35 = .ok (.iaload, 1) := by decide +kernel
theorem d_Mo_place_36 : decode b_Mo_place 36 = .ok (.ireturn, 1) := by decide +kernel
theorem d_Mo_place_37 : decode b_Mo_place 37 = .ok (.iload_n 2, 1) := by decide +kernel
theorem d_Mo_place_38 : decode b_Mo_place 38 = .ok (.iconst 1, 1) := by decide +kernel
theorem d_Mo_place_39 : decode b_Mo_place 39 = .ok (.if_icmp .ne 10, 3) := by decide +kernel
theorem d_Mo_place_42 : decode b_Mo_place 42 = .ok (.aload_n 0, 1) := by decide +kernel
theorem d_Mo_place_43 : decode b_Mo_place 43 = .ok (.getfield 23, 3) := by decide +kernel
theorem d_Mo_place_46 : decode b_Mo_place 46 = .ok (.iload_n 1, 1) := by decide +kernel
theorem d_Mo_place_47 : decode b_Mo_place 47 = .ok (.iaload, 1) := by decide +kernel
theorem d_Mo_place_48 : decode b_Mo_place 48 = .ok (.ireturn, 1) := by decide +kernel
theorem d_Mo_place_49 : decode b_Mo_place 49 = .ok (.iload_n 2, 1) := by decide +kernel
theorem d_Mo_place_50 : decode b_Mo_place 50 = .ok (.iconst 2, 1) := by decide +kernel
theorem d_Mo_place_51 : decode b_Mo_place 51 = .ok (.if_icmp .ne 10, 3) := by decide +kernel
theorem d_Mo_place_54 : decode b_Mo_place 54 = .ok (.aload_n 0, 1) := by decide +kernel
theorem d_Mo_place_55 : decode b_Mo_place 55 = .ok (.getfield 26, 3) := by decide +kernel
theorem d_Mo_place_58 : decode b_Mo_place 58 = .ok (.iload_n 1, 1) := by decide +kernel
theorem d_Mo_place_59 : decode b_Mo_place 59 = .ok (.iaload, 1) := by decide +kernel
theorem d_Mo_place_60 : decode b_Mo_place 60 = .ok (.ireturn, 1) := by decide +kernel
theorem d_Mo_place_61 : decode b_Mo_place 61 = .ok (.iload_n 2, 1) := by decide +kernel
theorem d_Mo_place_62 : decode b_Mo_place 62 = .ok (.iconst 3, 1) := by decide +kernel
theorem d_Mo_place_63 : decode b_Mo_place 63 = .ok (.if_icmp .ne 9, 3) := by decide +kernel
theorem d_Mo_place_66 : decode b_Mo_place 66 = .ok (.aload_n 0, 1) := by decide +kernel
theorem d_Mo_place_67 : decode b_Mo_place 67 = .ok (.iload_n 1, 1) := by decide +kernel
theorem d_Mo_place_68 : decode b_Mo_place 68 = .ok (.invokevirtual 175, 3) := by decide +kernel
theorem d_Mo_place_71 : decode b_Mo_place 71 = .ok (.ireturn, 1) := by decide +kernel
theorem d_Mo_place_72 : decode b_Mo_place 72 = .ok (.iload_n 2, 1) := by decide +kernel
theorem d_Mo_place_73 : decode b_Mo_place 73 = .ok (.iconst 4, 1) := by decide +kernel
theorem d_Mo_place_74 : decode b_Mo_place 74 = .ok (.if_icmp .ne 9, 3) := by decide +kernel
theorem d_Mo_place_77 : decode b_Mo_place 77 = .ok (.aload_n 0, 1) := by decide +kernel
theorem d_Mo_place_78 : decode b_Mo_place 78 = .ok (.iload_n 1, 1) := by decide +kernel
theorem d_Mo_place_79 : decode b_Mo_place 79 = .ok (.invokevirtual 130, 3) := by decide +kernel
theorem d_Mo_place_82 : decode b_Mo_place 82 = .ok (.ireturn, 1) := by decide +kernel
theorem d_Mo_place_83 : decode b_Mo_place 83 = .ok (.iload_n 2, 1) := by decide +kernel
theorem d_Mo_place_84 : decode b_Mo_place 84 = .ok (.iconst 5, 1) := by decide +kernel
theorem d_Mo_place_85 : decode b_Mo_place 85 = .ok (.if_icmp .ne 9, 3) := by decide +kernel
theorem d_Mo_place_88 : decode b_Mo_place 88 = .ok (.aload_n 0, 1) := by decide +kernel
theorem d_Mo_place_89 : decode b_Mo_place 89 = .ok (.iload_n 1, 1) := by decide +kernel
theorem d_Mo_place_90 : decode b_Mo_place 90 = .ok (.invokevirtual 133, 3) := by decide +kernel
theorem d_Mo_place_93 : decode b_Mo_place 93 = .ok (.ireturn, 1) := by decide +kernel
theorem d_Mo_place_94 : decode b_Mo_place 94 = .ok (.iload_n 2, 1) := by decide +kernel
theorem d_Mo_place_95 : decode b_Mo_place 95 = .ok (.bipush 6, 2) := by decide +kernel
theorem d_Mo_place_97 : decode b_Mo_place 97 = .ok (.if_icmp .eq 5, 3) := by decide +kernel
theorem d_Mo_place_100 : decode b_Mo_place 100 = .ok (.iconst (-1), 1) := by decide +kernel
theorem d_Mo_place_101 : decode b_Mo_place 101 = .ok (.ireturn, 1) := by decide +kernel
theorem d_Mo_place_102 : decode b_Mo_place 102 = .ok (.iconst 0, 1) := by decide +kernel
theorem d_Mo_place_103 : decode b_Mo_place 103 = .ok (.istore_n 3, 1) := by decide +kernel
theorem d_Mo_place_104 : decode b_Mo_place 104 = .ok (.iconst 0, 1) := by decide +kernel
theorem d_Mo_place_105 : decode b_Mo_place 105 = .ok (.istore 4, 2) := by decide +kernel
theorem d_Mo_place_107 : decode b_Mo_place 107 = .ok (.iload 4, 2) := by decide +kernel
theorem d_Mo_place_109 : decode b_Mo_place 109 = .ok (.bipush 64, 2) := by decide +kernel
theorem d_Mo_place_111 : decode b_Mo_place 111 = .ok (.if_icmp .ge 33, 3) := by decide +kernel
theorem d_Mo_place_114 : decode b_Mo_place 114 = .ok (.aload_n 0, 1) := by decide +kernel
theorem d_Mo_place_115 : decode b_Mo_place 115 = .ok (.getfield 29, 3) := by decide +kernel
theorem d_Mo_place_118 : decode b_Mo_place 118 = .ok (.iload_n 1, 1) := by decide +kernel
theorem d_Mo_place_119 : decode b_Mo_place 119 = .ok (.laload, 1) := by decide +kernel
theorem d_Mo_place_120 : decode b_Mo_place 120 = .ok (.iload 4, 2) := by decide +kernel
theorem d_Mo_place_122 : decode b_Mo_place 122 = .ok (.lshr, 1) := by decide +kernel
theorem d_Mo_place_123 : decode b_Mo_place 123 = .ok (.lconst 1, 1) := by decide +kernel
theorem d_Mo_place_124 : decode b_Mo_place 124 = .ok (.land, 1) := by decide +kernel
theorem d_Mo_place_125 : decode b_Mo_place 125 = .ok (.lconst 1, 1) := by decide +kernel
theorem d_Mo_place_126 : decode b_Mo_place 126 = .ok (.lcmp, 1) := by decide +kernel
theorem d_Mo_place_127 : decode b_Mo_place 127 = .ok (.ifCond .ne 9, 3) := by decide +kernel
theorem d_Mo_place_130 : decode b_Mo_place 130 = .ok (.iload_n 3, 1) := by decide +kernel
theorem d_Mo_place_131 : decode b_Mo_place 131 = .ok (.iconst 1, 1) := by decide +kernel
theorem d_Mo_place_132 : decode b_Mo_place 132 = .ok (.iadd, 1) := by decide +kernel
theorem d_Mo_place_133 : decode b_Mo_place 133 = .ok (.goto 4, 3) := by decide +kernel
theorem d_Mo_place_136 : decode b_Mo_place 136 = .ok (.iload_n 3, 1) := by decide +kernel
theorem d_Mo_place_137 : decode b_Mo_place 137 = .ok (.istore_n 3, 1) := by decide +kernel
theorem d_Mo_place_138 : decode b_Mo_place 138 = .ok (.iinc 4 1, 3) := by decide +kernel
theorem d_Mo_place_141 : decode b_Mo_place 141 = .ok (.goto (-34), 3) := by decide +kernel
theorem d_Mo_place_144 : decode b_Mo_place 144 = .ok (.iload_n 3, 1) := by decide +kernel
theorem d_Mo_place_145 : decode b_Mo_place 145 = .ok (.ireturn, 1) := by decide +kernel
theorem d_Mo_told_0 : decode b_Mo_told 0 = .ok (.aload_n 0, 1) := by decide +kernel
theorem d_Mo_told_1 : decode b_Mo_told 1 = .ok (.iconst 0, 1) := by decide +kernel
theorem d_Mo_told_2 : decode b_Mo_told 2 = .ok (.putfield 101, 3) := by decide +kernel
theorem d_Mo_told_5 : decode b_Mo_told 5 = .ok (.iload_n 1, 1) := by decide +kernel
theorem d_Mo_told_6 : decode b_Mo_told 6 = .ok (.ifCond .ne 8, 3) := by decide +kernel
theorem d_Mo_told_9 : decode b_Mo_told 9 = .ok (.aload_n 0, 1) := by decide +kernel
theorem d_Mo_told_10 : decode b_Mo_told 10 = .ok (.getfield 92, 3) := by decide +kernel
theorem d_Mo_told_13 : decode b_Mo_told 13 = .ok (.ireturn, 1) := by decide +kernel
theorem d_Mo_told_14 : decode b_Mo_told 14 = .ok (.iload_n 1, 1) := by decide +kernel
theorem d_Mo_told_15 : decode b_Mo_told 15 = .ok (.iconst 1, 1) := by decide +kernel
theorem d_Mo_told_16 : decode b_Mo_told 16 = .ok (.if_icmp .ne 8, 3) := by decide +kernel
theorem d_Mo_told_19 : decode b_Mo_told 19 = .ok (.aload_n 0, 1) := by decide +kernel
theorem d_Mo_told_20 : decode b_Mo_told 20 = .ok (.getfield 95, 3) := by decide +kernel
theorem d_Mo_told_23 : decode b_Mo_told 23 = .ok (.ireturn, 1) := by decide +kernel
theorem d_Mo_told_24 : decode b_Mo_told 24 = .ok (.iload_n 1, 1) := by decide +kernel
theorem d_Mo_told_25 : decode b_Mo_told 25 = .ok (.iconst 2, 1) := by decide +kernel
theorem d_Mo_told_26 : decode b_Mo_told 26 = .ok (.if_icmp .ne 8, 3) := by decide +kernel
theorem d_Mo_told_29 : decode b_Mo_told 29 = .ok (.aload_n 0, 1) := by decide +kernel
theorem d_Mo_told_30 : decode b_Mo_told 30 = .ok (.getfield 98, 3) := by decide +kernel
theorem d_Mo_told_33 : decode b_Mo_told 33 = .ok (.ireturn, 1) := by decide +kernel
theorem d_Mo_told_34 : decode b_Mo_told 34 = .ok (.iload_n 1, 1) := by decide +kernel
theorem d_Mo_told_35 : decode b_Mo_told 35 = .ok (.iconst 3, 1) := by decide +kernel
theorem d_Mo_told_36 : decode b_Mo_told 36 = .ok (.if_icmp .ne 8, 3) := by decide +kernel
theorem d_Mo_told_39 : decode b_Mo_told 39 = .ok (.aload_n 0, 1) := by decide +kernel
theorem d_Mo_told_40 : decode b_Mo_told 40 = .ok (.getfield 108, 3) := by decide +kernel
theorem d_Mo_told_43 : decode b_Mo_told 43 = .ok (.ireturn, 1) := by decide +kernel
theorem d_Mo_told_44 : decode b_Mo_told 44 = .ok (.iload_n 1, 1) := by decide +kernel
theorem d_Mo_told_45 : decode b_Mo_told 45 = .ok (.iconst 4, 1) := by decide +kernel
theorem d_Mo_told_46 : decode b_Mo_told 46 = .ok (.if_icmp .ne 8, 3) := by decide +kernel
theorem d_Mo_told_49 : decode b_Mo_told 49 = .ok (.aload_n 0, 1) := by decide +kernel
theorem d_Mo_told_50 : decode b_Mo_told 50 = .ok (.getfield 116, 3) := by decide +kernel
theorem d_Mo_told_53 : decode b_Mo_told 53 = .ok (.ireturn, 1) := by decide +kernel
theorem d_Mo_told_54 : decode b_Mo_told 54 = .ok (.iload_n 1, 1) := by decide +kernel
theorem d_Mo_told_55 : decode b_Mo_told 55 = .ok (.iconst 5, 1) := by decide +kernel
theorem d_Mo_told_56 : decode b_Mo_told 56 = .ok (.if_icmp .ne 8, 3) := by decide +kernel
theorem d_Mo_told_59 : decode b_Mo_told 59 = .ok (.aload_n 0, 1) := by decide +kernel
theorem d_Mo_told_60 : decode b_Mo_told 60 = .ok (.getfield 194, 3) := by decide +kernel
theorem d_Mo_told_63 : decode b_Mo_told 63 = .ok (.ireturn, 1) := by decide +kernel
theorem d_Mo_told_64 : decode b_Mo_told 64 = .ok (.iload_n 1, 1) := by decide +kernel
theorem d_Mo_told_65 : decode b_Mo_told 65 = .ok (.bipush 6, 2) := by decide +kernel
theorem d_Mo_told_67 : decode b_Mo_told 67 = .ok (.if_icmp .ne 8, 3) := by decide +kernel
theorem d_Mo_told_70 : decode b_Mo_told 70 = .ok (.aload_n 0, 1) := by decide +kernel
theorem d_Mo_told_71 : decode b_Mo_told 71 = .ok (.getfield 197, 3) := by decide +kernel
theorem d_Mo_told_74 : decode b_Mo_told 74 = .ok (.ireturn, 1) := by decide +kernel
theorem d_Mo_told_75 : decode b_Mo_told 75 = .ok (.iload_n 1, 1) := by decide +kernel
theorem d_Mo_told_76 : decode b_Mo_told 76 = .ok (.bipush 7, 2) := by decide +kernel
theorem d_Mo_told_78 : decode b_Mo_told 78 = .ok (.if_icmp .ne 10, 3) := by decide +kernel
theorem d_Mo_told_81 : decode b_Mo_told 81 = .ok (.aload_n 0, 1) := by decide +kernel
theorem d_Mo_told_82 : decode b_Mo_told 82 = .ok (.getfield 69, 3) := by decide +kernel
theorem d_Mo_told_85 : decode b_Mo_told 85 = .ok (.goto 4, 3) := by decide +kernel
theorem d_Mo_told_88 : decode b_Mo_told 88 = .ok (.iconst (-1), 1) := by decide +kernel
theorem d_Mo_told_89 : decode b_Mo_told 89 = .ok (.ireturn, 1) := by decide +kernel
theorem d_Mo_clear_0 : decode b_Mo_clear 0 = .ok (.aload_n 0, 1) := by decide +kernel
theorem d_Mo_clear_1 : decode b_Mo_clear 1 = .ok (.iconst 0, 1) := by decide +kernel
theorem d_Mo_clear_2 : decode b_Mo_clear 2 = .ok (.putfield 101, 3) := by decide +kernel
theorem d_Mo_clear_5 : decode b_Mo_clear 5 = .ok (.aload_n 0, 1) := by decide +kernel
theorem d_Mo_clear_6 : decode b_Mo_clear 6 = .ok (.iconst 0, 1) := by decide +kernel
theorem d_Mo_clear_7 : decode b_Mo_clear 7 = .ok (.putfield 108, 3) := by decide +kernel
theorem d_Mo_clear_10 : decode b_Mo_clear 10 = .ok (.aload_n 0, 1) := by decide +kernel
theorem d_Mo_clear_11 : decode b_Mo_clear 11 = .ok (.iconst 0, 1) := by decide +kernel
theorem d_Mo_clear_12 : decode b_Mo_clear 12 = .ok (.putfield 116, 3) := by decide +kernel
theorem d_Mo_clear_15 : decode b_Mo_clear 15 = .ok (.aload_n 0, 1) := by decide +kernel
theorem d_Mo_clear_16 : decode b_Mo_clear 16 = .ok (.iconst 0, 1) := by decide +kernel
theorem d_Mo_clear_17 : decode b_Mo_clear 17 = .ok (.putfield 194, 3) := by decide +kernel
theorem d_Mo_clear_20 : decode b_Mo_clear 20 = .ok (.aload_n 0, 1) := by decide +kernel
theorem d_Mo_clear_21 : decode b_Mo_clear 21 = .ok (.iconst 0, 1) := by decide +kernel
theorem d_Mo_clear_22 : decode b_Mo_clear 22 = .ok (.putfield 197, 3) := by decide +kernel
theorem d_Mo_clear_25 : decode b_Mo_clear 25 = .ok (.aload_n 0, 1) := by decide +kernel
theorem d_Mo_clear_26 : decode b_Mo_clear 26 = .ok (.iconst (-1), 1) := by decide +kernel
theorem d_Mo_clear_27 : decode b_Mo_clear 27 = .ok (.putfield 69, 3) := by decide +kernel
theorem d_Mo_clear_30 : decode b_Mo_clear 30 = .ok (.iconst 0, 1) := by decide +kernel
theorem d_Mo_clear_31 : decode b_Mo_clear 31 = .ok (.istore_n 1, 1) := by decide +kernel
theorem d_Mo_clear_32 : decode b_Mo_clear 32 = .ok (.iload_n 1, 1) := by decide +kernel
theorem d_Mo_clear_33 : decode b_Mo_clear 33 = .ok (.iconst 4, 1) := by decide +kernel
theorem d_Mo_clear_34 : decode b_Mo_clear 34 = .ok (.if_icmp .ge 16, 3) := by decide +kernel
theorem d_Mo_clear_37 : decode b_Mo_clear 37 = .ok (.aload_n 0, 1) := by decide +kernel
theorem d_Mo_clear_38 : decode b_Mo_clear 38 = .ok (.getfield 32, 3) := by decide +kernel
theorem d_Mo_clear_41 : decode b_Mo_clear 41 = .ok (.iload_n 1, 1) := by decide +kernel
theorem d_Mo_clear_42 : decode b_Mo_clear 42 = .ok (.iconst 0, 1) := by decide +kernel
theorem d_Mo_clear_43 : decode b_Mo_clear 43 = .ok (.iastore, 1) := by decide +kernel
theorem d_Mo_clear_44 : decode b_Mo_clear 44 = .ok (.iinc 1 1, 3) := by decide +kernel
theorem d_Mo_clear_47 : decode b_Mo_clear 47 = .ok (.goto (-15), 3) := by decide +kernel
theorem d_Mo_clear_50 : decode b_Mo_clear 50 = .ok (.iconst 0, 1) := by decide +kernel
theorem d_Mo_clear_51 : decode b_Mo_clear 51 = .ok (.istore_n 1, 1) := by decide +kernel
theorem d_Mo_clear_52 : decode b_Mo_clear 52 = .ok (.iload_n 1, 1) := by decide +kernel
theorem d_Mo_clear_53 : decode b_Mo_clear 53 = .ok (.sipush 576, 3) := by decide +kernel
theorem d_Mo_clear_56 : decode b_Mo_clear 56 = .ok (.if_icmp .ge 16, 3) := by decide +kernel
theorem d_Mo_clear_59 : decode b_Mo_clear 59 = .ok (.aload_n 0, 1) := by decide +kernel
theorem d_Mo_clear_60 : decode b_Mo_clear 60 = .ok (.getfield 38, 3) := by decide +kernel
theorem d_Mo_clear_63 : decode b_Mo_clear 63 = .ok (.iload_n 1, 1) := by decide +kernel
theorem d_Mo_clear_64 : decode b_Mo_clear 64 = .ok (.iconst 0, 1) := by decide +kernel
theorem d_Mo_clear_65 : decode b_Mo_clear 65 = .ok (.bastore, 1) := by decide +kernel
theorem d_Mo_clear_66 : decode b_Mo_clear 66 = .ok (.iinc 1 1, 3) := by decide +kernel
theorem d_Mo_clear_69 : decode b_Mo_clear 69 = .ok (.goto (-17), 3) := by decide +kernel
theorem d_Mo_clear_72 : decode b_Mo_clear 72 = .ok (.return_, 1) := by decide +kernel
