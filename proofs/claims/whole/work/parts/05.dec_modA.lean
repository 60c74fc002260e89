theorem dX9_init_0 : decode cX9_init 0 = .ok (.aload_n 0, 1) := by decide +kernel
theorem dX9_init_1 : decode cX9_init 1 = .ok (.invokespecial 1, 3) := by decide +kernel
theorem dX9_init_4 : decode cX9_init 4 = .ok (.aload_n 0, 1) := by decide +kernel
theorem dX9_init_5 : decode cX9_init 5 = .ok (.sipush 200, 3) := by decide +kernel
theorem dX9_init_8 : decode cX9_init 8 = .ok (.newarray .int, 2) := by decide +kernel
theorem dX9_init_10 : decode cX9_init 10 = .ok (.putfield 7, 3) := by decide +kernel
theorem dX9_init_13 : decode cX9_init 13 = .ok (.aload_n 0, 1) := by decide +kernel
theorem dX9_init_14 : decode cX9_init 14 = .ok (.bipush 6, 2) := by decide +kernel
theorem dX9_init_16 : decode cX9_init 16 = .ok (.newarray .int, 2) := by decide +kernel
theorem dX9_init_18 : decode cX9_init 18 = .ok (.putfield 13, 3) := by decide +kernel
theorem dX9_init_21 : decode cX9_init 21 = .ok (.aload_n 0, 1) := by decide +kernel
theorem dX9_init_22 : decode cX9_init 22 = .ok (.bipush 9, 2) := by decide +kernel
theorem dX9_init_24 : decode cX9_init 24 = .ok (.newarray .int, 2) := by decide +kernel
theorem dX9_init_26 : decode cX9_init 26 = .ok (.putfield 16, 3) := by decide +kernel
theorem dX9_init_29 : decode cX9_init 29 = .ok (.aload_n 0, 1) := by decide +kernel
theorem dX9_init_30 : decode cX9_init 30 = .ok (.bipush 9, 2) := by decide +kernel
theorem dX9_init_32 : decode cX9_init 32 = .ok (.newarray .int, 2) := by decide +kernel
theorem dX9_init_34 : decode cX9_init 34 = .ok (.putfield 19, 3) := by decide +kernel
theorem dX9_init_37 : decode cX9_init 37 = .ok (.aload_n 0, 1) := by decide +kernel
theorem dX9_init_38 : decode cX9_init 38 = .ok (.bipush 6, 2) := by decide +kernel
theorem dX9_init_40 : decode cX9_init 40 = .ok (.newarray .int, 2) := by decide +kernel
theorem dX9_init_42 : decode cX9_init 42 = .ok (.putfield 22, 3) := by decide +kernel
theorem dX9_init_45 : decode cX9_init 45 = .ok (.aload_n 0, 1) := by decide +kernel
theorem dX9_init_46 : decode cX9_init 46 = .ok (.sipush 169, 3) := by decide +kernel
theorem dX9_init_49 : decode cX9_init 49 = .ok (.newarray .int, 2) := by decide +kernel
theorem dX9_init_51 : decode cX9_init 51 = .ok (.putfield 25, 3) := by decide +kernel
theorem dX9_init_54 : decode cX9_init 54 = .ok (.aload_n 0, 1) := by decide +kernel
theorem dX9_init_55 : decode cX9_init 55 = .ok (.sipush 1014, 3) := by decide +kernel
theorem dX9_init_58 : decode cX9_init 58 = .ok (.newarray .int, 2) := by decide +kernel
theorem dX9_init_60 : decode cX9_init 60 = .ok (.putfield 28, 3) := by decide +kernel
theorem dX9_init_63 : decode cX9_init 63 = .ok (.aload_n 0, 1) := by decide +kernel
theorem dX9_init_64 : decode cX9_init 64 = .ok (.sipush 169, 3) := by decide +kernel
theorem dX9_init_67 : decode cX9_init 67 = .ok (.newarray .int, 2) := by decide +kernel
theorem dX9_init_69 : decode cX9_init 69 = .ok (.putfield 31, 3) := by decide +kernel
theorem dX9_init_72 : decode cX9_init 72 = .ok (.aload_n 0, 1) := by decide +kernel
theorem dX9_init_73 : decode cX9_init 73 = .ok (.bipush 6, 2) := by decide +kernel
theorem dX9_init_75 : decode cX9_init 75 = .ok (.newarray .int, 2) := by decide +kernel
theorem dX9_init_77 : decode cX9_init 77 = .ok (.putfield 34, 3) := by decide +kernel
theorem dX9_init_80 : decode cX9_init 80 = .ok (.aload_n 0, 1) := by decide +kernel
theorem dX9_init_81 : decode cX9_init 81 = .ok (.bipush 9, 2) := by decide +kernel
theorem dX9_init_83 : decode cX9_init 83 = .ok (.newarray .int, 2) := by decide +kernel
theorem dX9_init_85 : decode cX9_init 85 = .ok (.putfield 37, 3) := by decide +kernel
theorem dX9_init_88 : decode cX9_init 88 = .ok (.aload_n 0, 1) := by decide +kernel
theorem dX9_init_89 : decode cX9_init 89 = .ok (.bipush 9, 2) := by decide +kernel
theorem dX9_init_91 : decode cX9_init 91 = .ok (.newarray .int, 2) := by decide +kernel
theorem dX9_init_93 : decode cX9_init 93 = .ok (.putfield 40, 3) := by decide +kernel
theorem dX9_init_96 : decode cX9_init 96 = .ok (.aload_n 0, 1) := by decide +kernel
theorem dX9_init_97 : decode cX9_init 97 = .ok (.sipush 169, 3) := by decide +kernel
theorem dX9_init_100 : decode cX9_init 100 = .ok (.newarray .int, 2) := by decide +kernel
theorem dX9_init_102 : decode cX9_init 102 = .ok (.putfield 43, 3) := by decide +kernel
theorem dX9_init_105 : decode cX9_init 105 = .ok (.aload_n 0, 1) := by decide +kernel
theorem dX9_init_106 : decode cX9_init 106 = .ok (.iconst 4, 1) := by decide +kernel
theorem dX9_init_107 : decode cX9_init 107 = .ok (.newarray .int, 2) := by decide +kernel
theorem dX9_init_109 : decode cX9_init 109 = .ok (.putfield 46, 3) := by decide +kernel
theorem dX9_init_112 : decode cX9_init 112 = .ok (.aload_n 0, 1) := by decide +kernel
theorem dX9_init_113 : decode cX9_init 113 = .ok (.sipush 169, 3) := by decide +kernel
theorem dX9_init_116 : decode cX9_init 116 = .ok (.newarray .int, 2) := by decide +kernel
theorem dX9_init_118 : decode cX9_init 118 = .ok (.putfield 49, 3) := by decide +kernel
theorem dX9_init_121 : decode cX9_init 121 = .ok (.aload_n 0, 1) := by decide +kernel
theorem dX9_init_122 : decode cX9_init 122 = .ok (.bipush 6, 2) := by decide +kernel
theorem dX9_init_124 : decode cX9_init 124 = .ok (.newarray .int, 2) := by decide +kernel
theorem dX9_init_126 : decode cX9_init 126 = .ok (.putfield 52, 3) := by decide +kernel
theorem dX9_init_129 : decode cX9_init 129 = .ok (.aload_n 0, 1) := by decide +kernel
theorem dX9_init_130 : decode cX9_init 130 = .ok (.bipush 6, 2) := by decide +kernel
theorem dX9_init_132 : decode cX9_init 132 = .ok (.newarray .int, 2) := by decide +kernel
theorem dX9_init_134 : decode cX9_init 134 = .ok (.putfield 55, 3) := by decide +kernel
theorem dX9_init_137 : decode cX9_init 137 = .ok (.aload_n 0, 1) := by decide +kernel
theorem dX9_init_138 : decode cX9_init 138 = .ok (.iconst 4, 1) := by decide +kernel
theorem dX9_init_139 : decode cX9_init 139 = .ok (.putfield 58, 3) := by decide +kernel
theorem dX9_init_142 : decode cX9_init 142 = .ok (.aload_n 0, 1) := by decide +kernel
theorem dX9_init_143 : decode cX9_init 143 = .ok (.getfield 13, 3) := by decide +kernel
theorem dX9_init_146 : decode cX9_init 146 = .ok (.iconst 0, 1) := by decide +kernel
theorem dX9_init_147 : decode cX9_init 147 = .ok (.iconst 3, 1) := by decide +kernel
theorem dX9_init_148 : decode cX9_init 148 = .ok (.iastore, 1) := by decide +kernel
theorem dX9_init_149 : decode cX9_init 149 = .ok (.aload_n 0, 1) := by decide +kernel
theorem dX9_init_150 : decode cX9_init 150 = .ok (.getfield 13, 3) := by decide +kernel
theorem dX9_init_153 : decode cX9_init 153 = .ok (.iconst 1, 1) := by decide +kernel
theorem dX9_init_154 : decode cX9_init 154 = .ok (.iconst 3, 1) := by decide +kernel
theorem dX9_init_155 : decode cX9_init 155 = .ok (.iastore, 1) := by decide +kernel
theorem dX9_init_156 : decode cX9_init 156 = .ok (.aload_n 0, 1) := by decide +kernel
theorem dX9_init_157 : decode cX9_init 157 = .ok (.getfield 13, 3) := by decide +kernel
theorem dX9_init_160 : decode cX9_init 160 = .ok (.iconst 2, 1) := by decide +kernel
theorem dX9_init_161 : decode cX9_init 161 = .ok (.iconst 2, 1) := by decide +kernel
theorem dX9_init_162 : decode cX9_init 162 = .ok (.iastore, 1) := by decide +kernel
theorem dX9_init_163 : decode cX9_init 163 = .ok (.aload_n 0, 1) := by decide +kernel
theorem dX9_init_164 : decode cX9_init 164 = .ok (.getfield 13, 3) := by decide +kernel
theorem dX9_init_167 : decode cX9_init 167 = .ok (.iconst 3, 1) := by decide +kernel
theorem dX9_init_168 : decode cX9_init 168 = .ok (.iconst 3, 1) := by decide +kernel
theorem dX9_init_169 : decode cX9_init 169 = .ok (.iastore, 1) := by decide +kernel
theorem dX9_init_170 : decode cX9_init 170 = .ok (.aload_n 0, 1) := by decide +kernel
theorem dX9_init_171 : decode cX9_init 171 = .ok (.bipush 20, 2) := by decide +kernel
theorem dX9_init_173 : decode cX9_init 173 = .ok (.putfield 62, 3) := by decide +kernel
theorem dX9_init_176 : decode cX9_init 176 = .ok (.aload_n 0, 1) := by decide +kernel
theorem dX9_init_177 : decode cX9_init 177 = .ok (.getfield 25, 3) := by decide +kernel
theorem dX9_init_180 : decode cX9_init 180 = .ok (.iconst 0, 1) := by decide +kernel
theorem dX9_init_181 : decode cX9_init 181 = .ok (.iconst 2, 1) := by decide +kernel
theorem dX9_init_182 : decode cX9_init 182 = .ok (.iastore, 1) := by decide +kernel
theorem dX9_init_183 : decode cX9_init 183 = .ok (.aload_n 0, 1) := by decide +kernel
theorem dX9_init_184 : decode cX9_init 184 = .ok (.getfield 25, 3) := by decide +kernel
theorem dX9_init_187 : decode cX9_init 187 = .ok (.bipush 6, 2) := by decide +kernel
theorem dX9_init_189 : decode cX9_init 189 = .ok (.iconst 1, 1) := by decide +kernel
theorem dX9_init_190 : decode cX9_init 190 = .ok (.iastore, 1) := by decide +kernel
theorem dX9_init_191 : decode cX9_init 191 = .ok (.aload_n 0, 1) := by decide +kernel
theorem dX9_init_192 : decode cX9_init 192 = .ok (.getfield 25, 3) := by decide +kernel
theorem dX9_init_195 : decode cX9_init 195 = .ok (.bipush 13, 2) := by decide +kernel
theorem dX9_init_197 : decode cX9_init 197 = .ok (.iconst 4, 1) := by decide +kernel
theorem dX9_init_198 : decode cX9_init 198 = .ok (.iastore, 1) := by decide +kernel
theorem dX9_init_199 : decode cX9_init 199 = .ok (.aload_n 0, 1) := by decide +kernel
theorem dX9_init_200 : decode cX9_init 200 = .ok (.iconst 4, 1) := by decide +kernel
theorem dX9_init_201 : decode cX9_init 201 = .ok (.putfield 65, 3) := by decide +kernel
theorem dX9_init_204 : decode cX9_init 204 = .ok (.aload_n 0, 1) := by decide +kernel
theorem dX9_init_205 : decode cX9_init 205 = .ok (.iconst 0, 1) := by decide +kernel
theorem dX9_init_206 : decode cX9_init 206 = .ok (.iconst 0, 1) := by decide +kernel
theorem dX9_init_207 : decode cX9_init 207 = .ok (.iconst 1, 1) := by decide +kernel
theorem dX9_init_208 : decode cX9_init 208 = .ok (.iconst 5, 1) := by decide +kernel
theorem dX9_init_209 : decode cX9_init 209 = .ok (.invokevirtual 68, 3) := by decide +kernel
theorem dX9_init_212 : decode cX9_init 212 = .ok (.aload_n 0, 1) := by decide +kernel
theorem dX9_init_213 : decode cX9_init 213 = .ok (.iconst 1, 1) := by decide +kernel
theorem dX9_init_214 : decode cX9_init 214 = .ok (.iconst 1, 1) := by decide +kernel
theorem dX9_init_215 : decode cX9_init 215 = .ok (.iconst 2, 1) := by decide +kernel
theorem dX9_init_216 : decode cX9_init 216 = .ok (.iconst 3, 1) := by decide +kernel
theorem dX9_init_217 : decode cX9_init 217 = .ok (.invokevirtual 68, 3) := by decide +kernel
theorem dX9_init_220 : decode cX9_init 220 = .ok (.aload_n 0, 1) := by decide +kernel
theorem dX9_init_221 : decode cX9_init 221 = .ok (.iconst 2, 1) := by decide +kernel
theorem dX9_init_222 : decode cX9_init 222 = .ok (.iconst 0, 1) := by decide +kernel
theorem dX9_init_223 : decode cX9_init 223 = .ok (.iconst 3, 1) := by decide +kernel
theorem dX9_init_224 : decode cX9_init 224 = .ok (.bipush 7, 2) := by decide +kernel
theorem dX9_init_226 : decode cX9_init 226 = .ok (.invokevirtual 68, 3) := by decide +kernel
theorem dX9_init_229 : decode cX9_init 229 = .ok (.aload_n 0, 1) := by decide +kernel
theorem dX9_init_230 : decode cX9_init 230 = .ok (.iconst 3, 1) := by decide +kernel
theorem dX9_init_231 : decode cX9_init 231 = .ok (.iconst 2, 1) := by decide +kernel
theorem dX9_init_232 : decode cX9_init 232 = .ok (.iconst 3, 1) := by decide +kernel
theorem dX9_init_233 : decode cX9_init 233 = .ok (.bipush 9, 2) := by decide +kernel
theorem dX9_init_235 : decode cX9_init 235 = .ok (.invokevirtual 68, 3) := by decide +kernel
theorem dX9_init_238 : decode cX9_init 238 = .ok (.aload_n 0, 1) := by decide +kernel
theorem dX9_init_239 : decode cX9_init 239 = .ok (.getfield 25, 3) := by decide +kernel
theorem dX9_init_242 : decode cX9_init 242 = .ok (.bipush 49, 2) := by decide +kernel
theorem dX9_init_244 : decode cX9_init 244 = .ok (.bipush 6, 2) := by decide +kernel
theorem dX9_init_246 : decode cX9_init 246 = .ok (.iastore, 1) := by decide +kernel
theorem dX9_init_247 : decode cX9_init 247 = .ok (.aload_n 0, 1) := by decide +kernel
theorem dX9_init_248 : decode cX9_init 248 = .ok (.getfield 25, 3) := by decide +kernel
theorem dX9_init_251 : decode cX9_init 251 = .ok (.bipush 74, 2) := by decide +kernel
theorem dX9_init_253 : decode cX9_init 253 = .ok (.iconst 4, 1) := by decide +kernel
theorem dX9_init_254 : decode cX9_init 254 = .ok (.iastore, 1) := by decide +kernel
theorem dX9_init_255 : decode cX9_init 255 = .ok (.return_, 1) := by decide +kernel
theorem dX9_begins_0 : decode cX9_begins 0 = .ok (.aload_n 0, 1) := by decide +kernel
theorem dX9_begins_1 : decode cX9_begins 1 = .ok (.getfield 16, 3) := by decide +kernel
theorem dX9_begins_4 : decode cX9_begins 4 = .ok (.iload_n 1, 1) := by decide +kernel
theorem dX9_begins_5 : decode cX9_begins 5 = .ok (.iload_n 2, 1) := by decide +kernel
theorem dX9_begins_6 : decode cX9_begins 6 = .ok (.iastore, 1) := by decide +kernel
theorem dX9_begins_7 : decode cX9_begins 7 = .ok (.aload_n 0, 1) := by decide +kernel
theorem dX9_begins_8 : decode cX9_begins 8 = .ok (.getfield 19, 3) := by decide +kernel
theorem dX9_begins_11 : decode cX9_begins 11 = .ok (.iload_n 1, 1) := by decide +kernel
theorem dX9_begins_12 : decode cX9_begins 12 = .ok (.iload_n 3, 1) := by decide +kernel
theorem dX9_begins_13 : decode cX9_begins 13 = .ok (.iastore, 1) := by decide +kernel
theorem dX9_begins_14 : decode cX9_begins 14 = .ok (.iconst 0, 1) := by decide +kernel
theorem dX9_begins_15 : decode cX9_begins 15 = .ok (.istore 5, 2) := by decide +kernel
theorem dX9_begins_17 : decode cX9_begins 17 = .ok (.iload 5, 2) := by decide +kernel
theorem dX9_begins_19 : decode cX9_begins 19 = .ok (.iconst 4, 1) := by decide +kernel
theorem dX9_begins_20 : decode cX9_begins 20 = .ok (.if_icmp .ge 54, 3) := by decide +kernel
theorem dX9_begins_23 : decode cX9_begins 23 = .ok (.aload_n 0, 1) := by decide +kernel
theorem dX9_begins_24 : decode cX9_begins 24 = .ok (.getfield 25, 3) := by decide +kernel
theorem dX9_begins_27 : decode cX9_begins 27 = .ok (.bipush 24, 2) := by decide +kernel
theorem dX9_begins_29 : decode cX9_begins 29 = .ok (.bipush 16, 2) := by decide +kernel
theorem dX9_begins_31 : decode cX9_begins 31 = .ok (.iload_n 1, 1) := by decide +kernel
theorem dX9_begins_32 : decode cX9_begins 32 = .ok (.imul, 1) := by decide +kernel
theorem dX9_begins_33 : decode cX9_begins 33 = .ok (.iadd, 1) := by decide +kernel
theorem dX9_begins_34 : decode cX9_begins 34 = .ok (.iconst 5, 1) := by decide +kernel
theorem dX9_begins_35 : decode cX9_begins 35 = .ok (.iload 5, 2) := by decide +kernel
theorem dX9_begins_37 : decode cX9_begins 37 = .ok (.imul, 1) := by decide +kernel
theorem dX9_begins_38 : decode cX9_begins 38 = .ok (.iadd, 1) := by decide +kernel
theorem dX9_begins_39 : decode cX9_begins 39 = .ok (.iload 5, 2) := by decide +kernel
theorem dX9_begins_41 : decode cX9_begins 41 = .ok (.aload_n 0, 1) := by decide +kernel
theorem dX9_begins_42 : decode cX9_begins 42 = .ok (.getfield 13, 3) := by decide +kernel
theorem dX9_begins_45 : decode cX9_begins 45 = .ok (.iload_n 2, 1) := by decide +kernel
theorem dX9_begins_46 : decode cX9_begins 46 = .ok (.iaload, 1) := by decide +kernel
theorem dX9_begins_47 : decode cX9_begins 47 = .ok (.if_icmp .ge 19, 3) := by decide +kernel
theorem dX9_begins_50 : decode cX9_begins 50 = .ok (.iload 5, 2) := by decide +kernel
theorem dX9_begins_52 : decode cX9_begins 52 = .ok (.aload_n 0, 1) := by decide +kernel
theorem dX9_begins_53 : decode cX9_begins 53 = .ok (.getfield 13, 3) := by decide +kernel
theorem dX9_begins_56 : decode cX9_begins 56 = .ok (.iload_n 3, 1) := by decide +kernel
theorem dX9_begins_57 : decode cX9_begins 57 = .ok (.iaload, 1) := by decide +kernel
theorem dX9_begins_58 : decode cX9_begins 58 = .ok (.if_icmp .ge 8, 3) := by decide +kernel
theorem dX9_begins_61 : decode cX9_begins 61 = .ok (.iload 4, 2) := by decide +kernel
theorem dX9_begins_63 : decode cX9_begins 63 = .ok (.goto 4, 3) := by decide +kernel
theorem dX9_begins_66 : decode cX9_begins 66 = .ok (.iconst 0, 1) := by decide +kernel
theorem dX9_begins_67 : decode cX9_begins 67 = .ok (.iastore, 1) := by decide +kernel
theorem dX9_begins_68 : decode cX9_begins 68 = .ok (.iinc 5 1, 3) := by decide +kernel
theorem dX9_begins_71 : decode cX9_begins 71 = .ok (.goto (-54), 3) := by decide +kernel
theorem dX9_begins_74 : decode cX9_begins 74 = .ok (.return_, 1) := by decide +kernel
theorem dX9_isIn_0 : decode cX9_isIn 0 = .ok (.iload_n 0, 1) := by decide +kernel
theorem dX9_isIn_1 : decode cX9_isIn 1 = .ok (.iload_n 1, 1) := by decide +kernel
theorem dX9_isIn_2 : decode cX9_isIn 2 = .ok (.if_icmp .lt 12, 3) := by decide +kernel
theorem dX9_isIn_5 : decode cX9_isIn 5 = .ok (.iload_n 0, 1) := by decide +kernel
theorem dX9_isIn_6 : decode cX9_isIn 6 = .ok (.iload_n 2, 1) := by decide +kernel
theorem dX9_isIn_7 : decode cX9_isIn 7 = .ok (.if_icmp .gt 7, 3) := by decide +kernel
theorem dX9_isIn_10 : decode cX9_isIn 10 = .ok (.iconst 1, 1) := by decide +kernel
theorem dX9_isIn_11 : decode cX9_isIn 11 = .ok (.goto 4, 3) := by decide +kernel
theorem dX9_isIn_14 : decode cX9_isIn 14 = .ok (.iconst 0, 1) := by decide +kernel
theorem dX9_isIn_15 : decode cX9_isIn 15 = .ok (.ireturn, 1) := by decide +kernel
theorem dX9_letterAt_0 : decode cX9_letterAt 0 = .ok (.iload_n 1, 1) := by decide +kernel
theorem dX9_letterAt_1 : decode cX9_letterAt 1 = .ok (.aload_n 0, 1) := by decide +kernel
theorem dX9_letterAt_2 : decode cX9_letterAt 2 = .ok (.getfield 72, 3) := by decide +kernel
theorem dX9_letterAt_5 : decode cX9_letterAt 5 = .ok (.if_icmp .ge 12, 3) := by decide +kernel
theorem dX9_letterAt_8 : decode cX9_letterAt 8 = .ok (.aload_n 0, 1) := by decide +kernel
theorem dX9_letterAt_9 : decode cX9_letterAt 9 = .ok (.getfield 7, 3) := by decide +kernel
theorem dX9_letterAt_12 : decode cX9_letterAt 12 = .ok (.iload_n 1, 1) := by decide +kernel
theorem dX9_letterAt_13 : decode cX9_letterAt 13 = .ok (.iaload, 1) := by decide +kernel
theorem dX9_letterAt_14 : decode cX9_letterAt 14 = .ok (.goto 4, 3) := by decide +kernel
theorem dX9_letterAt_17 : decode cX9_letterAt 17 = .ok (.iconst 0, 1) := by decide +kernel
theorem dX9_letterAt_18 : decode cX9_letterAt 18 = .ok (.ireturn, 1) := by decide +kernel
theorem dX9_number_0 : decode cX9_number 0 = .ok (.iload_n 1, 1) := by decide +kernel
theorem dX9_number_1 : decode cX9_number 1 = .ok (.istore 4, 2) := by decide +kernel
theorem dX9_number_3 : decode cX9_number 3 = .ok (.aload_n 0, 1) := by decide +kernel
theorem dX9_number_4 : decode cX9_number 4 = .ok (.iconst 0, 1) := by decide +kernel
theorem dX9_number_5 : decode cX9_number 5 = .ok (.putfield 75, 3) := by decide +kernel
theorem dX9_number_8 : decode cX9_number 8 = .ok (.aload_n 0, 1) := by decide +kernel
theorem dX9_number_9 : decode cX9_number 9 = .ok (.iload 4, 2) := by decide +kernel
theorem dX9_number_11 : decode cX9_number 11 = .ok (.invokevirtual 78, 3) := by decide +kernel
theorem dX9_number_14 : decode cX9_number 14 = .ok (.bipush 48, 2) := by decide +kernel
theorem dX9_number_16 : decode cX9_number 16 = .ok (.if_icmp .lt 49, 3) := by decide +kernel
theorem dX9_number_19 : decode cX9_number 19 = .ok (.aload_n 0, 1) := by decide +kernel
theorem dX9_number_20 : decode cX9_number 20 = .ok (.iload 4, 2) := by decide +kernel
theorem dX9_number_22 : decode cX9_number 22 = .ok (.invokevirtual 78, 3) := by decide +kernel
theorem dX9_number_25 : decode cX9_number 25 = .ok (.bipush 57, 2) := by decide +kernel
theorem dX9_number_27 : decode cX9_number 27 = .ok (.if_icmp .gt 38, 3) := by decide +kernel
theorem dX9_number_30 : decode cX9_number 30 = .ok (.iload 4, 2) := by decide +kernel
theorem dX9_number_32 : decode cX9_number 32 = .ok (.iload_n 1, 1) := by decide +kernel
theorem dX9_number_33 : decode cX9_number 33 = .ok (.iconst 2, 1) := by decide +kernel
theorem dX9_number_34 : decode cX9_number 34 = .ok (.iadd, 1) := by decide +kernel
theorem dX9_number_35 : decode cX9_number 35 = .ok (.if_icmp .ge 30, 3) := by decide +kernel
theorem dX9_number_38 : decode cX9_number 38 = .ok (.aload_n 0, 1) := by decide +kernel
theorem dX9_number_39 : decode cX9_number 39 = .ok (.bipush 10, 2) := by decide +kernel
theorem dX9_number_41 : decode cX9_number 41 = .ok (.aload_n 0, 1) := by decide +kernel
theorem dX9_number_42 : decode cX9_number 42 = .ok (.getfield 75, 3) := by decide +kernel
theorem dX9_number_45 : decode cX9_number 45 = .ok (.imul, 1) := by decide +kernel
theorem dX9_number_46 : decode cX9_number 46 = .ok (.aload_n 0, 1) := by decide +kernel
theorem dX9_number_47 : decode cX9_number 47 = .ok (.iload 4, 2) := by decide +kernel
theorem dX9_number_49 : decode cX9_number 49 = .ok (.invokevirtual 78, 3) := by decide +kernel
theorem dX9_number_52 : decode cX9_number 52 = .ok (.iadd, 1) := by decide +kernel
theorem dX9_number_53 : decode cX9_number 53 = .ok (.bipush 48, 2) := by decide +kernel
theorem dX9_number_55 : decode cX9_number 55 = .ok (.isub, 1) := by decide +kernel
theorem dX9_number_56 : decode cX9_number 56 = .ok (.putfield 75, 3) := by decide +kernel
theorem dX9_number_59 : decode cX9_number 59 = .ok (.iinc 4 1, 3) := by decide +kernel
theorem dX9_number_62 : decode cX9_number 62 = .ok (.goto (-54), 3) := by decide +kernel
theorem dX9_number_65 : decode cX9_number 65 = .ok (.aload_n 0, 1) := by decide +kernel
theorem dX9_number_66 : decode cX9_number 66 = .ok (.iload 4, 2) := by decide +kernel
theorem dX9_number_68 : decode cX9_number 68 = .ok (.putfield 82, 3) := by decide +kernel
theorem dX9_number_71 : decode cX9_number 71 = .ok (.iload 4, 2) := by decide +kernel
theorem dX9_number_73 : decode cX9_number 73 = .ok (.iload_n 1, 1) := by decide +kernel
theorem dX9_number_74 : decode cX9_number 74 = .ok (.if_icmp .le 19, 3) := by decide +kernel
theorem dX9_number_77 : decode cX9_number 77 = .ok (.aload_n 0, 1) := by decide +kernel
theorem dX9_number_78 : decode cX9_number 78 = .ok (.getfield 75, 3) := by decide +kernel
theorem dX9_number_81 : decode cX9_number 81 = .ok (.iload_n 2, 1) := by decide +kernel
theorem dX9_number_82 : decode cX9_number 82 = .ok (.iload_n 3, 1) := by decide +kernel
theorem dX9_number_83 : decode cX9_number 83 = .ok (.invokestatic 85, 3) := by decide +kernel
theorem dX9_number_86 : decode cX9_number 86 = .ok (.ifCond .eq 7, 3) := by decide +kernel
theorem dX9_number_89 : decode cX9_number 89 = .ok (.iconst 1, 1) := by decide +kernel
theorem dX9_number_90 : decode cX9_number 90 = .ok (.goto 4, 3) := by decide +kernel
theorem dX9_number_93 : decode cX9_number 93 = .ok (.iconst 0, 1) := by decide +kernel
theorem dX9_number_94 : decode cX9_number 94 = .ok (.ireturn, 1) := by decide +kernel
theorem dX9_more_0 : decode cX9_more 0 = .ok (.aload_n 0, 1) := by decide +kernel
theorem dX9_more_1 : decode cX9_more 1 = .ok (.aload_n 0, 1) := by decide +kernel
theorem dX9_more_2 : decode cX9_more 2 = .ok (.getfield 82, 3) := by decide +kernel
theorem dX9_more_5 : decode cX9_more 5 = .ok (.invokevirtual 78, 3) := by decide +kernel
theorem dX9_more_8 : decode cX9_more 8 = .ok (.bipush 44, 2) := by decide +kernel
theorem dX9_more_10 : decode cX9_more 10 = .ok (.if_icmp .ne 22, 3) := by decide +kernel
theorem dX9_more_13 : decode cX9_more 13 = .ok (.aload_n 0, 1) := by decide +kernel
theorem dX9_more_14 : decode cX9_more 14 = .ok (.aload_n 0, 1) := by decide +kernel
theorem dX9_more_15 : decode cX9_more 15 = .ok (.getfield 82, 3) := by decide +kernel
theorem dX9_more_18 : decode cX9_more 18 = .ok (.iconst 1, 1) := by decide +kernel
theorem dX9_more_19 : decode cX9_more 19 = .ok (.iadd, 1) := by decide +kernel
theorem dX9_more_20 : decode cX9_more 20 = .ok (.iload_n 1, 1) := by decide +kernel
theorem dX9_more_21 : decode cX9_more 21 = .ok (.iload_n 2, 1) := by decide +kernel
theorem dX9_more_22 : decode cX9_more 22 = .ok (.invokevirtual 89, 3) := by decide +kernel
theorem dX9_more_25 : decode cX9_more 25 = .ok (.ifCond .eq 7, 3) := by decide +kernel
theorem dX9_more_28 : decode cX9_more 28 = .ok (.iconst 1, 1) := by decide +kernel
theorem dX9_more_29 : decode cX9_more 29 = .ok (.goto 4, 3) := by decide +kernel
theorem dX9_more_32 : decode cX9_more 32 = .ok (.iconst 0, 1) := by decide +kernel
theorem dX9_more_33 : decode cX9_more 33 = .ok (.ireturn, 1) := by decide +kernel
theorem dX9_readsName_0 : decode cX9_readsName 0 = .ok (.aload_n 0, 1) := by decide +kernel
theorem dX9_readsName_1 : decode cX9_readsName 1 = .ok (.getfield 92, 3) := by decide +kernel
theorem dX9_readsName_4 : decode cX9_readsName 4 = .ok (.bipush 6, 2) := by decide +kernel
theorem dX9_readsName_6 : decode cX9_readsName 6 = .ok (.if_icmp .eq 13, 3) := by decide +kernel
theorem dX9_readsName_9 : decode cX9_readsName 9 = .ok (.aload_n 0, 1) := by decide +kernel
theorem dX9_readsName_10 : decode cX9_readsName 10 = .ok (.iload_n 1, 1) := by decide +kernel
theorem dX9_readsName_11 : decode cX9_readsName 11 = .ok (.iconst 2, 1) := by decide +kernel
theorem dX9_readsName_12 : decode cX9_readsName 12 = .ok (.iconst 4, 1) := by decide +kernel
theorem dX9_readsName_13 : decode cX9_readsName 13 = .ok (.invokevirtual 89, 3) := by decide +kernel
theorem dX9_readsName_16 : decode cX9_readsName 16 = .ok (.ifCond .ne 5, 3) := by decide +kernel
theorem dX9_readsName_19 : decode cX9_readsName 19 = .ok (.iconst 0, 1) := by decide +kernel
theorem dX9_readsName_20 : decode cX9_readsName 20 = .ok (.ireturn, 1) := by decide +kernel
theorem dX9_readsName_21 : decode cX9_readsName 21 = .ok (.aload_n 0, 1) := by decide +kernel
theorem dX9_readsName_22 : decode cX9_readsName 22 = .ok (.getfield 34, 3) := by decide +kernel
theorem dX9_readsName_25 : decode cX9_readsName 25 = .ok (.aload_n 0, 1) := by decide +kernel
theorem dX9_readsName_26 : decode cX9_readsName 26 = .ok (.getfield 92, 3) := by decide +kernel
theorem dX9_readsName_29 : decode cX9_readsName 29 = .ok (.aload_n 0, 1) := by decide +kernel
theorem dX9_readsName_30 : decode cX9_readsName 30 = .ok (.getfield 75, 3) := by decide +kernel
theorem dX9_readsName_33 : decode cX9_readsName 33 = .ok (.iastore, 1) := by decide +kernel
theorem dX9_readsName_34 : decode cX9_readsName 34 = .ok (.aload_n 0, 1) := by decide +kernel
theorem dX9_readsName_35 : decode cX9_readsName 35 = .ok (.dup, 1) := by decide +kernel
theorem dX9_readsName_36 : decode cX9_readsName 36 = .ok (.getfield 92, 3) := by decide +kernel
theorem dX9_readsName_39 : decode cX9_readsName 39 = .ok (.iconst 1, 1) := by decide +kernel
theorem dX9_readsName_40 : decode cX9_readsName 40 = .ok (.iadd, 1) := by decide +kernel
theorem dX9_readsName_41 : decode cX9_readsName 41 = .ok (.putfield 92, 3) := by decide +kernel
theorem dX9_readsName_44 : decode cX9_readsName 44 = .ok (.iconst 1, 1) := by decide +kernel
theorem dX9_readsName_45 : decode cX9_readsName 45 = .ok (.ireturn, 1) := by decide +kernel
theorem dX9_readsSingle_0 : decode cX9_readsSingle 0 = .ok (.aload_n 0, 1) := by decide +kernel
theorem dX9_readsSingle_1 : decode cX9_readsSingle 1 = .ok (.iload_n 1, 1) := by decide +kernel
theorem dX9_readsSingle_2 : decode cX9_readsSingle 2 = .ok (.iconst 0, 1) := by decide +kernel
theorem dX9_readsSingle_3 : decode cX9_readsSingle 3 = .ok (.aload_n 0, 1) := by decide +kernel
theorem dX9_readsSingle_4 : decode cX9_readsSingle 4 = .ok (.getfield 92, 3) := by decide +kernel
theorem dX9_readsSingle_7 : decode cX9_readsSingle 7 = .ok (.iconst 1, 1) := by decide +kernel
theorem dX9_readsSingle_8 : decode cX9_readsSingle 8 = .ok (.isub, 1) := by decide +kernel
theorem dX9_readsSingle_9 : decode cX9_readsSingle 9 = .ok (.invokevirtual 89, 3) := by decide +kernel
theorem dX9_readsSingle_12 : decode cX9_readsSingle 12 = .ok (.ifCond .ne 5, 3) := by decide +kernel
theorem dX9_readsSingle_15 : decode cX9_readsSingle 15 = .ok (.iconst 0, 1) := by decide +kernel
theorem dX9_readsSingle_16 : decode cX9_readsSingle 16 = .ok (.ireturn, 1) := by decide +kernel
theorem dX9_readsSingle_17 : decode cX9_readsSingle 17 = .ok (.aload_n 0, 1) := by decide +kernel
theorem dX9_readsSingle_18 : decode cX9_readsSingle 18 = .ok (.getfield 75, 3) := by decide +kernel
theorem dX9_readsSingle_21 : decode cX9_readsSingle 21 = .ok (.istore_n 2, 1) := by decide +kernel
theorem dX9_readsSingle_22 : decode cX9_readsSingle 22 = .ok (.aload_n 0, 1) := by decide +kernel
theorem dX9_readsSingle_23 : decode cX9_readsSingle 23 = .ok (.iconst 0, 1) := by decide +kernel
theorem dX9_readsSingle_24 : decode cX9_readsSingle 24 = .ok (.aload_n 0, 1) := by decide +kernel
theorem dX9_readsSingle_25 : decode cX9_readsSingle 25 = .ok (.getfield 34, 3) := by decide +kernel
theorem dX9_readsSingle_28 : decode cX9_readsSingle 28 = .ok (.iload_n 2, 1) := by decide +kernel
theorem dX9_readsSingle_29 : decode cX9_readsSingle 29 = .ok (.iaload, 1) := by decide +kernel
theorem dX9_readsSingle_30 : decode cX9_readsSingle 30 = .ok (.iconst 1, 1) := by decide +kernel
theorem dX9_readsSingle_31 : decode cX9_readsSingle 31 = .ok (.isub, 1) := by decide +kernel
theorem dX9_readsSingle_32 : decode cX9_readsSingle 32 = .ok (.invokevirtual 95, 3) := by decide +kernel
theorem dX9_readsSingle_35 : decode cX9_readsSingle 35 = .ok (.ifCond .ne 5, 3) := by decide +kernel
theorem dX9_readsSingle_38 : decode cX9_readsSingle 38 = .ok (.iconst 0, 1) := by decide +kernel
theorem dX9_readsSingle_39 : decode cX9_readsSingle 39 = .ok (.ireturn, 1) := by decide +kernel
theorem dX9_readsSingle_40 : decode cX9_readsSingle 40 = .ok (.iconst 4, 1) := by decide +kernel
theorem dX9_readsSingle_41 : decode cX9_readsSingle 41 = .ok (.iload_n 2, 1) := by decide +kernel
theorem dX9_readsSingle_42 : decode cX9_readsSingle 42 = .ok (.imul, 1) := by decide +kernel
theorem dX9_readsSingle_43 : decode cX9_readsSingle 43 = .ok (.aload_n 0, 1) := by decide +kernel
theorem dX9_readsSingle_44 : decode cX9_readsSingle 44 = .ok (.getfield 75, 3) := by decide +kernel
theorem dX9_readsSingle_47 : decode cX9_readsSingle 47 = .ok (.iadd, 1) := by decide +kernel
theorem dX9_readsSingle_48 : decode cX9_readsSingle 48 = .ok (.istore_n 3, 1) := by decide +kernel
theorem dX9_readsSingle_49 : decode cX9_readsSingle 49 = .ok (.aload_n 0, 1) := by decide +kernel
theorem dX9_readsSingle_50 : decode cX9_readsSingle 50 = .ok (.iconst 0, 1) := by decide +kernel
theorem dX9_readsSingle_51 : decode cX9_readsSingle 51 = .ok (.bipush 99, 2) := by decide +kernel
theorem dX9_readsSingle_53 : decode cX9_readsSingle 53 = .ok (.invokevirtual 95, 3) := by decide +kernel
theorem dX9_readsSingle_56 : decode cX9_readsSingle 56 = .ok (.istore 4, 2) := by decide +kernel
theorem dX9_readsSingle_58 : decode cX9_readsSingle 58 = .ok (.aload_n 0, 1) := by decide +kernel
theorem dX9_readsSingle_59 : decode cX9_readsSingle 59 = .ok (.getfield 43, 3) := by decide +kernel
theorem dX9_readsSingle_62 : decode cX9_readsSingle 62 = .ok (.iload_n 3, 1) := by decide +kernel
theorem dX9_readsSingle_63 : decode cX9_readsSingle 63 = .ok (.aload_n 0, 1) := by decide +kernel
theorem dX9_readsSingle_64 : decode cX9_readsSingle 64 = .ok (.getfield 75, 3) := by decide +kernel
theorem dX9_readsSingle_67 : decode cX9_readsSingle 67 = .ok (.iastore, 1) := by decide +kernel
theorem dX9_readsSingle_68 : decode cX9_readsSingle 68 = .ok (.iload 4, 2) := by decide +kernel
theorem dX9_readsSingle_70 : decode cX9_readsSingle 70 = .ok (.ireturn, 1) := by decide +kernel
theorem dX9_readsTable_0 : decode cX9_readsTable 0 = .ok (.aload_n 0, 1) := by decide +kernel
theorem dX9_readsTable_1 : decode cX9_readsTable 1 = .ok (.getfield 99, 3) := by decide +kernel
theorem dX9_readsTable_4 : decode cX9_readsTable 4 = .ok (.bipush 9, 2) := by decide +kernel
theorem dX9_readsTable_6 : decode cX9_readsTable 6 = .ok (.if_icmp .eq 18, 3) := by decide +kernel
theorem dX9_readsTable_9 : decode cX9_readsTable 9 = .ok (.aload_n 0, 1) := by decide +kernel
theorem dX9_readsTable_10 : decode cX9_readsTable 10 = .ok (.iload_n 1, 1) := by decide +kernel
theorem dX9_readsTable_11 : decode cX9_readsTable 11 = .ok (.iconst 0, 1) := by decide +kernel
theorem dX9_readsTable_12 : decode cX9_readsTable 12 = .ok (.aload_n 0, 1) := by decide +kernel
theorem dX9_readsTable_13 : decode cX9_readsTable 13 = .ok (.getfield 92, 3) := by decide +kernel
theorem dX9_readsTable_16 : decode cX9_readsTable 16 = .ok (.iconst 1, 1) := by decide +kernel
theorem dX9_readsTable_17 : decode cX9_readsTable 17 = .ok (.isub, 1) := by decide +kernel
theorem dX9_readsTable_18 : decode cX9_readsTable 18 = .ok (.invokevirtual 89, 3) := by decide +kernel
theorem dX9_readsTable_21 : decode cX9_readsTable 21 = .ok (.ifCond .ne 5, 3) := by decide +kernel
theorem dX9_readsTable_24 : decode cX9_readsTable 24 = .ok (.iconst 0, 1) := by decide +kernel
theorem dX9_readsTable_25 : decode cX9_readsTable 25 = .ok (.ireturn, 1) := by decide +kernel
theorem dX9_readsTable_26 : decode cX9_readsTable 26 = .ok (.aload_n 0, 1) := by decide +kernel
theorem dX9_readsTable_27 : decode cX9_readsTable 27 = .ok (.getfield 75, 3) := by decide +kernel
theorem dX9_readsTable_30 : decode cX9_readsTable 30 = .ok (.istore_n 2, 1) := by decide +kernel
theorem dX9_readsTable_31 : decode cX9_readsTable 31 = .ok (.aload_n 0, 1) := by decide +kernel
theorem dX9_readsTable_32 : decode cX9_readsTable 32 = .ok (.iload_n 2, 1) := by decide +kernel
theorem dX9_readsTable_33 : decode cX9_readsTable 33 = .ok (.iconst 1, 1) := by decide +kernel
theorem dX9_readsTable_34 : decode cX9_readsTable 34 = .ok (.iadd, 1) := by decide +kernel
theorem dX9_readsTable_35 : decode cX9_readsTable 35 = .ok (.aload_n 0, 1) := by decide +kernel
theorem dX9_readsTable_36 : decode cX9_readsTable 36 = .ok (.getfield 92, 3) := by decide +kernel
theorem dX9_readsTable_39 : decode cX9_readsTable 39 = .ok (.iconst 1, 1) := by decide +kernel
theorem dX9_readsTable_40 : decode cX9_readsTable 40 = .ok (.isub, 1) := by decide +kernel
theorem dX9_readsTable_41 : decode cX9_readsTable 41 = .ok (.invokevirtual 95, 3) := by decide +kernel
theorem dX9_readsTable_44 : decode cX9_readsTable 44 = .ok (.ifCond .ne 5, 3) := by decide +kernel
theorem dX9_readsTable_47 : decode cX9_readsTable 47 = .ok (.iconst 0, 1) := by decide +kernel
theorem dX9_readsTable_48 : decode cX9_readsTable 48 = .ok (.ireturn, 1) := by decide +kernel
theorem dX9_readsTable_49 : decode cX9_readsTable 49 = .ok (.aload_n 0, 1) := by decide +kernel
theorem dX9_readsTable_50 : decode cX9_readsTable 50 = .ok (.getfield 75, 3) := by decide +kernel
theorem dX9_readsTable_53 : decode cX9_readsTable 53 = .ok (.istore_n 3, 1) := by decide +kernel
theorem dX9_readsTable_54 : decode cX9_readsTable 54 = .ok (.iconst 0, 1) := by decide +kernel
theorem dX9_readsTable_55 : decode cX9_readsTable 55 = .ok (.istore 4, 2) := by decide +kernel
theorem dX9_readsTable_57 : decode cX9_readsTable 57 = .ok (.iload 4, 2) := by decide +kernel
theorem dX9_readsTable_59 : decode cX9_readsTable 59 = .ok (.aload_n 0, 1) := by decide +kernel
theorem dX9_readsTable_60 : decode cX9_readsTable 60 = .ok (.getfield 99, 3) := by decide +kernel
theorem dX9_readsTable_63 : decode cX9_readsTable 63 = .ok (.if_icmp .ge 33, 3) := by decide +kernel
theorem dX9_readsTable_66 : decode cX9_readsTable 66 = .ok (.aload_n 0, 1) := by decide +kernel
theorem dX9_readsTable_67 : decode cX9_readsTable 67 = .ok (.getfield 37, 3) := by decide +kernel
theorem dX9_readsTable_70 : decode cX9_readsTable 70 = .ok (.iload 4, 2) := by decide +kernel
theorem dX9_readsTable_72 : decode cX9_readsTable 72 = .ok (.iaload, 1) := by decide +kernel
theorem dX9_readsTable_73 : decode cX9_readsTable 73 = .ok (.iload_n 2, 1) := by decide +kernel
theorem dX9_readsTable_74 : decode cX9_readsTable 74 = .ok (.if_icmp .ne 16, 3) := by decide +kernel
theorem dX9_readsTable_77 : decode cX9_readsTable 77 = .ok (.aload_n 0, 1) := by decide +kernel
theorem dX9_readsTable_78 : decode cX9_readsTable 78 = .ok (.getfield 40, 3) := by decide +kernel
theorem dX9_readsTable_81 : decode cX9_readsTable 81 = .ok (.iload 4, 2) := by decide +kernel
theorem dX9_readsTable_83 : decode cX9_readsTable 83 = .ok (.iaload, 1) := by decide +kernel
theorem dX9_readsTable_84 : decode cX9_readsTable 84 = .ok (.iload_n 3, 1) := by decide +kernel
theorem dX9_readsTable_85 : decode cX9_readsTable 85 = .ok (.if_icmp .ne 5, 3) := by decide +kernel
theorem dX9_readsTable_88 : decode cX9_readsTable 88 = .ok (.iconst 0, 1) := by decide +kernel
theorem dX9_readsTable_89 : decode cX9_readsTable 89 = .ok (.ireturn, 1) := by decide +kernel
theorem dX9_readsTable_90 : decode cX9_readsTable 90 = .ok (.iinc 4 1, 3) := by decide +kernel
theorem dX9_readsTable_93 : decode cX9_readsTable 93 = .ok (.goto (-36), 3) := by decide +kernel
theorem dX9_readsTable_96 : decode cX9_readsTable 96 = .ok (.aload_n 0, 1) := by decide +kernel
theorem dX9_readsTable_97 : decode cX9_readsTable 97 = .ok (.iconst 0, 1) := by decide +kernel
theorem dX9_readsTable_98 : decode cX9_readsTable 98 = .ok (.bipush 99, 2) := by decide +kernel
theorem dX9_readsTable_100 : decode cX9_readsTable 100 = .ok (.invokevirtual 95, 3) := by decide +kernel
theorem dX9_readsTable_103 : decode cX9_readsTable 103 = .ok (.istore 4, 2) := by decide +kernel
theorem dX9_readsTable_105 : decode cX9_readsTable 105 = .ok (.iconst 0, 1) := by decide +kernel
theorem dX9_readsTable_106 : decode cX9_readsTable 106 = .ok (.istore 5, 2) := by decide +kernel
theorem dX9_readsTable_108 : decode cX9_readsTable 108 = .ok (.iload 5, 2) := by decide +kernel
theorem dX9_readsTable_110 : decode cX9_readsTable 110 = .ok (.bipush 16, 2) := by decide +kernel
theorem dX9_readsTable_112 : decode cX9_readsTable 112 = .ok (.if_icmp .ge 42, 3) := by decide +kernel
theorem dX9_readsTable_115 : decode cX9_readsTable 115 = .ok (.aload_n 0, 1) := by decide +kernel
theorem dX9_readsTable_116 : decode cX9_readsTable 116 = .ok (.getfield 43, 3) := by decide +kernel
theorem dX9_readsTable_119 : decode cX9_readsTable 119 = .ok (.bipush 24, 2) := by decide +kernel
theorem dX9_readsTable_121 : decode cX9_readsTable 121 = .ok (.bipush 16, 2) := by decide +kernel
theorem dX9_readsTable_123 : decode cX9_readsTable 123 = .ok (.aload_n 0, 1) := by decide +kernel
theorem dX9_readsTable_124 : decode cX9_readsTable 124 = .ok (.getfield 99, 3) := by decide +kernel
theorem dX9_readsTable_127 : decode cX9_readsTable 127 = .ok (.imul, 1) := by decide +kernel
theorem dX9_readsTable_128 : decode cX9_readsTable 128 = .ok (.iadd, 1) := by decide +kernel
theorem dX9_readsTable_129 : decode cX9_readsTable 129 = .ok (.iload 5, 2) := by decide +kernel
theorem dX9_readsTable_131 : decode cX9_readsTable 131 = .ok (.iadd, 1) := by decide +kernel
theorem dX9_readsTable_132 : decode cX9_readsTable 132 = .ok (.iload 5, 2) := by decide +kernel
theorem dX9_readsTable_134 : decode cX9_readsTable 134 = .ok (.iconst 5, 1) := by decide +kernel
theorem dX9_readsTable_135 : decode cX9_readsTable 135 = .ok (.irem, 1) := by decide +kernel
theorem dX9_readsTable_136 : decode cX9_readsTable 136 = .ok (.ifCond .ne 10, 3) := by decide +kernel
theorem dX9_readsTable_139 : decode cX9_readsTable 139 = .ok (.aload_n 0, 1) := by decide +kernel
theorem dX9_readsTable_140 : decode cX9_readsTable 140 = .ok (.getfield 75, 3) := by decide +kernel
theorem dX9_readsTable_143 : decode cX9_readsTable 143 = .ok (.goto 4, 3) := by decide +kernel
theorem dX9_readsTable_146 : decode cX9_readsTable 146 = .ok (.iconst 0, 1) := by decide +kernel
theorem dX9_readsTable_147 : decode cX9_readsTable 147 = .ok (.iastore, 1) := by decide +kernel
theorem dX9_readsTable_148 : decode cX9_readsTable 148 = .ok (.iinc 5 1, 3) := by decide +kernel
theorem dX9_readsTable_151 : decode cX9_readsTable 151 = .ok (.goto (-43), 3) := by decide +kernel
theorem dX9_readsTable_154 : decode cX9_readsTable 154 = .ok (.aload_n 0, 1) := by decide +kernel
theorem dX9_readsTable_155 : decode cX9_readsTable 155 = .ok (.getfield 37, 3) := by decide +kernel
theorem dX9_readsTable_158 : decode cX9_readsTable 158 = .ok (.aload_n 0, 1) := by decide +kernel
theorem dX9_readsTable_159 : decode cX9_readsTable 159 = .ok (.getfield 99, 3) := by decide +kernel
theorem dX9_readsTable_162 : decode cX9_readsTable 162 = .ok (.iload_n 2, 1) := by decide +kernel
theorem dX9_readsTable_163 : decode cX9_readsTable 163 = .ok (.iastore, 1) := by decide +kernel
theorem dX9_readsTable_164 : decode cX9_readsTable 164 = .ok (.aload_n 0, 1) := by decide +kernel
theorem dX9_readsTable_165 : decode cX9_readsTable 165 = .ok (.getfield 40, 3) := by decide +kernel
theorem dX9_readsTable_168 : decode cX9_readsTable 168 = .ok (.aload_n 0, 1) := by decide +kernel
theorem dX9_readsTable_169 : decode cX9_readsTable 169 = .ok (.getfield 99, 3) := by decide +kernel
theorem dX9_readsTable_172 : decode cX9_readsTable 172 = .ok (.iload_n 3, 1) := by decide +kernel
theorem dX9_readsTable_173 : decode cX9_readsTable 173 = .ok (.iastore, 1) := by decide +kernel
theorem dX9_readsTable_174 : decode cX9_readsTable 174 = .ok (.aload_n 0, 1) := by decide +kernel
theorem dX9_readsTable_175 : decode cX9_readsTable 175 = .ok (.dup, 1) := by decide +kernel
theorem dX9_readsTable_176 : decode cX9_readsTable 176 = .ok (.getfield 99, 3) := by decide +kernel
theorem dX9_readsTable_179 : decode cX9_readsTable 179 = .ok (.iconst 1, 1) := by decide +kernel
theorem dX9_readsTable_180 : decode cX9_readsTable 180 = .ok (.iadd, 1) := by decide +kernel
theorem dX9_readsTable_181 : decode cX9_readsTable 181 = .ok (.putfield 99, 3) := by decide +kernel
theorem dX9_readsTable_184 : decode cX9_readsTable 184 = .ok (.iload 4, 2) := by decide +kernel
theorem dX9_readsTable_186 : decode cX9_readsTable 186 = .ok (.ireturn, 1) := by decide +kernel
theorem dX9_readsPair_0 : decode cX9_readsPair 0 = .ok (.aload_n 0, 1) := by decide +kernel
theorem dX9_readsPair_1 : decode cX9_readsPair 1 = .ok (.iload_n 1, 1) := by decide +kernel
theorem dX9_readsPair_2 : decode cX9_readsPair 2 = .ok (.iconst 0, 1) := by decide +kernel
theorem dX9_readsPair_3 : decode cX9_readsPair 3 = .ok (.aload_n 0, 1) := by decide +kernel
theorem dX9_readsPair_4 : decode cX9_readsPair 4 = .ok (.getfield 99, 3) := by decide +kernel
theorem dX9_readsPair_7 : decode cX9_readsPair 7 = .ok (.iconst 1, 1) := by decide +kernel
theorem dX9_readsPair_8 : decode cX9_readsPair 8 = .ok (.isub, 1) := by decide +kernel
theorem dX9_readsPair_9 : decode cX9_readsPair 9 = .ok (.invokevirtual 89, 3) := by decide +kernel
theorem dX9_readsPair_12 : decode cX9_readsPair 12 = .ok (.ifCond .ne 5, 3) := by decide +kernel
theorem dX9_readsPair_15 : decode cX9_readsPair 15 = .ok (.iconst 0, 1) := by decide +kernel
theorem dX9_readsPair_16 : decode cX9_readsPair 16 = .ok (.ireturn, 1) := by decide +kernel
theorem dX9_readsPair_17 : decode cX9_readsPair 17 = .ok (.aload_n 0, 1) := by decide +kernel
theorem dX9_readsPair_18 : decode cX9_readsPair 18 = .ok (.getfield 75, 3) := by decide +kernel
theorem dX9_readsPair_21 : decode cX9_readsPair 21 = .ok (.istore_n 2, 1) := by decide +kernel
theorem dX9_readsPair_22 : decode cX9_readsPair 22 = .ok (.aload_n 0, 1) := by decide +kernel
theorem dX9_readsPair_23 : decode cX9_readsPair 23 = .ok (.iconst 0, 1) := by decide +kernel
theorem dX9_readsPair_24 : decode cX9_readsPair 24 = .ok (.aload_n 0, 1) := by decide +kernel
theorem dX9_readsPair_25 : decode cX9_readsPair 25 = .ok (.getfield 34, 3) := by decide +kernel
theorem dX9_readsPair_28 : decode cX9_readsPair 28 = .ok (.aload_n 0, 1) := by decide +kernel
theorem dX9_readsPair_29 : decode cX9_readsPair 29 = .ok (.getfield 37, 3) := by decide +kernel
theorem dX9_readsPair_32 : decode cX9_readsPair 32 = .ok (.iload_n 2, 1) := by decide +kernel
theorem dX9_readsPair_33 : decode cX9_readsPair 33 = .ok (.iaload, 1) := by decide +kernel
theorem dX9_readsPair_34 : decode cX9_readsPair 34 = .ok (.iaload, 1) := by decide +kernel
theorem dX9_readsPair_35 : decode cX9_readsPair 35 = .ok (.iconst 1, 1) := by decide +kernel
theorem dX9_readsPair_36 : decode cX9_readsPair 36 = .ok (.isub, 1) := by decide +kernel
theorem dX9_readsPair_37 : decode cX9_readsPair 37 = .ok (.invokevirtual 95, 3) := by decide +kernel
theorem dX9_readsPair_40 : decode cX9_readsPair 40 = .ok (.ifCond .ne 5, 3) := by decide +kernel
theorem dX9_readsPair_43 : decode cX9_readsPair 43 = .ok (.iconst 0, 1) := by decide +kernel
theorem dX9_readsPair_44 : decode cX9_readsPair 44 = .ok (.ireturn, 1) := by decide +kernel
theorem dX9_readsPair_45 : decode cX9_readsPair 45 = .ok (.aload_n 0, 1) := by decide +kernel
theorem dX9_readsPair_46 : decode cX9_readsPair 46 = .ok (.getfield 75, 3) := by decide +kernel
theorem dX9_readsPair_49 : decode cX9_readsPair 49 = .ok (.istore_n 3, 1) := by decide +kernel
theorem dX9_readsPair_50 : decode cX9_readsPair 50 = .ok (.aload_n 0, 1) := by decide +kernel
theorem dX9_readsPair_51 : decode cX9_readsPair 51 = .ok (.iconst 0, 1) := by decide +kernel
theorem dX9_readsPair_52 : decode cX9_readsPair 52 = .ok (.aload_n 0, 1) := by decide +kernel
theorem dX9_readsPair_53 : decode cX9_readsPair 53 = .ok (.getfield 34, 3) := by decide +kernel
theorem dX9_readsPair_56 : decode cX9_readsPair 56 = .ok (.aload_n 0, 1) := by decide +kernel
theorem dX9_readsPair_57 : decode cX9_readsPair 57 = .ok (.getfield 40, 3) := by decide +kernel
theorem dX9_readsPair_60 : decode cX9_readsPair 60 = .ok (.iload_n 2, 1) := by decide +kernel
theorem dX9_readsPair_61 : decode cX9_readsPair 61 = .ok (.iaload, 1) := by decide +kernel
theorem dX9_readsPair_62 : decode cX9_readsPair 62 = .ok (.iaload, 1) := by decide +kernel
theorem dX9_readsPair_63 : decode cX9_readsPair 63 = .ok (.iconst 1, 1) := by decide +kernel
theorem dX9_readsPair_64 : decode cX9_readsPair 64 = .ok (.isub, 1) := by decide +kernel
theorem dX9_readsPair_65 : decode cX9_readsPair 65 = .ok (.invokevirtual 95, 3) := by decide +kernel
theorem dX9_readsPair_68 : decode cX9_readsPair 68 = .ok (.ifCond .ne 5, 3) := by decide +kernel
theorem dX9_readsPair_71 : decode cX9_readsPair 71 = .ok (.iconst 0, 1) := by decide +kernel
theorem dX9_readsPair_72 : decode cX9_readsPair 72 = .ok (.ireturn, 1) := by decide +kernel
theorem dX9_readsPair_73 : decode cX9_readsPair 73 = .ok (.bipush 24, 2) := by decide +kernel
theorem dX9_readsPair_75 : decode cX9_readsPair 75 = .ok (.bipush 16, 2) := by decide +kernel
theorem dX9_readsPair_77 : decode cX9_readsPair 77 = .ok (.iload_n 2, 1) := by decide +kernel
theorem dX9_readsPair_78 : decode cX9_readsPair 78 = .ok (.imul, 1) := by decide +kernel
theorem dX9_readsPair_79 : decode cX9_readsPair 79 = .ok (.iadd, 1) := by decide +kernel
theorem dX9_readsPair_80 : decode cX9_readsPair 80 = .ok (.iconst 4, 1) := by decide +kernel
theorem dX9_readsPair_81 : decode cX9_readsPair 81 = .ok (.iload_n 3, 1) := by decide +kernel
theorem dX9_readsPair_82 : decode cX9_readsPair 82 = .ok (.imul, 1) := by decide +kernel
theorem dX9_readsPair_83 : decode cX9_readsPair 83 = .ok (.iadd, 1) := by decide +kernel
theorem dX9_readsPair_84 : decode cX9_readsPair 84 = .ok (.aload_n 0, 1) := by decide +kernel
theorem dX9_readsPair_85 : decode cX9_readsPair 85 = .ok (.getfield 75, 3) := by decide +kernel
theorem dX9_readsPair_88 : decode cX9_readsPair 88 = .ok (.iadd, 1) := by decide +kernel
theorem dX9_readsPair_89 : decode cX9_readsPair 89 = .ok (.istore 4, 2) := by decide +kernel
theorem dX9_readsPair_91 : decode cX9_readsPair 91 = .ok (.aload_n 0, 1) := by decide +kernel
theorem dX9_readsPair_92 : decode cX9_readsPair 92 = .ok (.iconst 0, 1) := by decide +kernel
theorem dX9_readsPair_93 : decode cX9_readsPair 93 = .ok (.bipush 99, 2) := by decide +kernel
theorem dX9_readsPair_95 : decode cX9_readsPair 95 = .ok (.invokevirtual 95, 3) := by decide +kernel
theorem dX9_readsPair_98 : decode cX9_readsPair 98 = .ok (.istore 5, 2) := by decide +kernel
theorem dX9_readsPair_100 : decode cX9_readsPair 100 = .ok (.aload_n 0, 1) := by decide +kernel
theorem dX9_readsPair_101 : decode cX9_readsPair 101 = .ok (.getfield 43, 3) := by decide +kernel
theorem dX9_readsPair_104 : decode cX9_readsPair 104 = .ok (.iload 4, 2) := by decide +kernel
theorem dX9_readsPair_106 : decode cX9_readsPair 106 = .ok (.aload_n 0, 1) := by decide +kernel
theorem dX9_readsPair_107 : decode cX9_readsPair 107 = .ok (.getfield 75, 3) := by decide +kernel
theorem dX9_readsPair_110 : decode cX9_readsPair 110 = .ok (.iastore, 1) := by decide +kernel
theorem dX9_readsPair_111 : decode cX9_readsPair 111 = .ok (.iload 5, 2) := by decide +kernel
theorem dX9_readsPair_113 : decode cX9_readsPair 113 = .ok (.ireturn, 1) := by decide +kernel
theorem dX9_readsItem_0 : decode cX9_readsItem 0 = .ok (.iload_n 1, 1) := by decide +kernel
theorem dX9_readsItem_1 : decode cX9_readsItem 1 = .ok (.lookupswitch 94 #[(98, 82), (99, 88), (116, 51), (117, 76), (118, 70)], 51) := by decide +kernel
theorem dX9_readsItem_52 : decode cX9_readsItem 52 = .ok (.aload_n 0, 1) := by decide +kernel
theorem dX9_readsItem_53 : decode cX9_readsItem 53 = .ok (.iload_n 2, 1) := by decide +kernel
theorem dX9_readsItem_54 : decode cX9_readsItem 54 = .ok (.iconst 1, 1) := by decide +kernel
theorem dX9_readsItem_55 : decode cX9_readsItem 55 = .ok (.bipush 99, 2) := by decide +kernel
theorem dX9_readsItem_57 : decode cX9_readsItem 57 = .ok (.invokevirtual 89, 3) := by decide +kernel
theorem dX9_readsItem_60 : decode cX9_readsItem 60 = .ok (.istore_n 3, 1) := by decide +kernel
theorem dX9_readsItem_61 : decode cX9_readsItem 61 = .ok (.aload_n 0, 1) := by decide +kernel
theorem dX9_readsItem_62 : decode cX9_readsItem 62 = .ok (.aload_n 0, 1) := by decide +kernel
theorem dX9_readsItem_63 : decode cX9_readsItem 63 = .ok (.getfield 75, 3) := by decide +kernel
theorem dX9_readsItem_66 : decode cX9_readsItem 66 = .ok (.putfield 102, 3) := by decide +kernel
theorem dX9_readsItem_69 : decode cX9_readsItem 69 = .ok (.iload_n 3, 1) := by decide +kernel
theorem dX9_readsItem_70 : decode cX9_readsItem 70 = .ok (.ireturn, 1) := by decide +kernel
theorem dX9_readsItem_71 : decode cX9_readsItem 71 = .ok (.aload_n 0, 1) := by decide +kernel
theorem dX9_readsItem_72 : decode cX9_readsItem 72 = .ok (.iload_n 2, 1) := by decide +kernel
theorem dX9_readsItem_73 : decode cX9_readsItem 73 = .ok (.invokevirtual 105, 3) := by decide +kernel
theorem dX9_readsItem_76 : decode cX9_readsItem 76 = .ok (.ireturn, 1) := by decide +kernel
theorem dX9_readsItem_77 : decode cX9_readsItem 77 = .ok (.aload_n 0, 1) := by decide +kernel
theorem dX9_readsItem_78 : decode cX9_readsItem 78 = .ok (.iload_n 2, 1) := by decide +kernel
theorem dX9_readsItem_79 : decode cX9_readsItem 79 = .ok (.invokevirtual 109, 3) := by decide +kernel
theorem dX9_readsItem_82 : decode cX9_readsItem 82 = .ok (.ireturn, 1) := by decide +kernel
theorem dX9_readsItem_83 : decode cX9_readsItem 83 = .ok (.aload_n 0, 1) := by decide +kernel
theorem dX9_readsItem_84 : decode cX9_readsItem 84 = .ok (.iload_n 2, 1) := by decide +kernel
theorem dX9_readsItem_85 : decode cX9_readsItem 85 = .ok (.invokevirtual 112, 3) := by decide +kernel
theorem dX9_readsItem_88 : decode cX9_readsItem 88 = .ok (.ireturn, 1) := by decide +kernel
theorem dX9_readsItem_89 : decode cX9_readsItem 89 = .ok (.aload_n 0, 1) := by decide +kernel
theorem dX9_readsItem_90 : decode cX9_readsItem 90 = .ok (.iload_n 2, 1) := by decide +kernel
theorem dX9_readsItem_91 : decode cX9_readsItem 91 = .ok (.invokevirtual 115, 3) := by decide +kernel
theorem dX9_readsItem_94 : decode cX9_readsItem 94 = .ok (.ireturn, 1) := by decide +kernel
theorem dX9_readsItem_95 : decode cX9_readsItem 95 = .ok (.iconst 0, 1) := by decide +kernel
theorem dX9_readsItem_96 : decode cX9_readsItem 96 = .ok (.ireturn, 1) := by decide +kernel
theorem dX9_reads_0 : decode cX9_reads 0 = .ok (.aload_n 0, 1) := by decide +kernel
theorem dX9_reads_1 : decode cX9_reads 1 = .ok (.iconst 0, 1) := by decide +kernel
theorem dX9_reads_2 : decode cX9_reads 2 = .ok (.putfield 92, 3) := by decide +kernel
theorem dX9_reads_5 : decode cX9_reads 5 = .ok (.aload_n 0, 1) := by decide +kernel
theorem dX9_reads_6 : decode cX9_reads 6 = .ok (.iconst 0, 1) := by decide +kernel
theorem dX9_reads_7 : decode cX9_reads 7 = .ok (.putfield 99, 3) := by decide +kernel
theorem dX9_reads_10 : decode cX9_reads 10 = .ok (.aload_n 0, 1) := by decide +kernel
theorem dX9_reads_11 : decode cX9_reads 11 = .ok (.bipush 20, 2) := by decide +kernel
theorem dX9_reads_13 : decode cX9_reads 13 = .ok (.putfield 102, 3) := by decide +kernel
theorem dX9_reads_16 : decode cX9_reads 16 = .ok (.iconst 0, 1) := by decide +kernel
theorem dX9_reads_17 : decode cX9_reads 17 = .ok (.istore_n 1, 1) := by decide +kernel
theorem dX9_reads_18 : decode cX9_reads 18 = .ok (.iload_n 1, 1) := by decide +kernel
theorem dX9_reads_19 : decode cX9_reads 19 = .ok (.sipush 169, 3) := by decide +kernel
theorem dX9_reads_22 : decode cX9_reads 22 = .ok (.if_icmp .ge 16, 3) := by decide +kernel
theorem dX9_reads_25 : decode cX9_reads 25 = .ok (.aload_n 0, 1) := by decide +kernel
theorem dX9_reads_26 : decode cX9_reads 26 = .ok (.getfield 43, 3) := by decide +kernel
theorem dX9_reads_29 : decode cX9_reads 29 = .ok (.iload_n 1, 1) := by decide +kernel
theorem dX9_reads_30 : decode cX9_reads 30 = .ok (.iconst 0, 1) := by decide +kernel
theorem dX9_reads_31 : decode cX9_reads 31 = .ok (.iastore, 1) := by decide +kernel
theorem dX9_reads_32 : decode cX9_reads 32 = .ok (.iinc 1 1, 3) := by decide +kernel
theorem dX9_reads_35 : decode cX9_reads 35 = .ok (.goto (-17), 3) := by decide +kernel
theorem dX9_reads_38 : decode cX9_reads 38 = .ok (.iconst 0, 1) := by decide +kernel
theorem dX9_reads_39 : decode cX9_reads 39 = .ok (.istore_n 1, 1) := by decide +kernel
theorem dX9_reads_40 : decode cX9_reads 40 = .ok (.iload_n 1, 1) := by decide +kernel
theorem dX9_reads_41 : decode cX9_reads 41 = .ok (.aload_n 0, 1) := by decide +kernel
theorem dX9_reads_42 : decode cX9_reads 42 = .ok (.getfield 72, 3) := by decide +kernel
theorem dX9_reads_45 : decode cX9_reads 45 = .ok (.if_icmp .ge 44, 3) := by decide +kernel
theorem dX9_reads_48 : decode cX9_reads 48 = .ok (.aload_n 0, 1) := by decide +kernel
theorem dX9_reads_49 : decode cX9_reads 49 = .ok (.aload_n 0, 1) := by decide +kernel
theorem dX9_reads_50 : decode cX9_reads 50 = .ok (.getfield 7, 3) := by decide +kernel
theorem dX9_reads_53 : decode cX9_reads 53 = .ok (.iload_n 1, 1) := by decide +kernel
theorem dX9_reads_54 : decode cX9_reads 54 = .ok (.iaload, 1) := by decide +kernel
theorem dX9_reads_55 : decode cX9_reads 55 = .ok (.iload_n 1, 1) := by decide +kernel
theorem dX9_reads_56 : decode cX9_reads 56 = .ok (.iconst 1, 1) := by decide +kernel
theorem dX9_reads_57 : decode cX9_reads 57 = .ok (.iadd, 1) := by decide +kernel
theorem dX9_reads_58 : decode cX9_reads 58 = .ok (.invokevirtual 118, 3) := by decide +kernel
theorem dX9_reads_61 : decode cX9_reads 61 = .ok (.ifCond .eq 16, 3) := by decide +kernel
theorem dX9_reads_64 : decode cX9_reads 64 = .ok (.aload_n 0, 1) := by decide +kernel
theorem dX9_reads_65 : decode cX9_reads 65 = .ok (.aload_n 0, 1) := by decide +kernel
theorem dX9_reads_66 : decode cX9_reads 66 = .ok (.getfield 82, 3) := by decide +kernel
theorem dX9_reads_69 : decode cX9_reads 69 = .ok (.invokevirtual 78, 3) := by decide +kernel
theorem dX9_reads_72 : decode cX9_reads 72 = .ok (.bipush 59, 2) := by decide +kernel
theorem dX9_reads_74 : decode cX9_reads 74 = .ok (.if_icmp .eq 5, 3) := by decide +kernel
theorem dX9_reads_77 : decode cX9_reads 77 = .ok (.iload_n 1, 1) := by decide +kernel
theorem dX9_reads_78 : decode cX9_reads 78 = .ok (.ireturn, 1) := by decide +kernel
theorem dX9_reads_79 : decode cX9_reads 79 = .ok (.aload_n 0, 1) := by decide +kernel
theorem dX9_reads_80 : decode cX9_reads 80 = .ok (.getfield 82, 3) := by decide +kernel
theorem dX9_reads_83 : decode cX9_reads 83 = .ok (.iconst 1, 1) := by decide +kernel
theorem dX9_reads_84 : decode cX9_reads 84 = .ok (.iadd, 1) := by decide +kernel
theorem dX9_reads_85 : decode cX9_reads 85 = .ok (.istore_n 1, 1) := by decide +kernel
theorem dX9_reads_86 : decode cX9_reads 86 = .ok (.goto (-46), 3) := by decide +kernel
theorem dX9_reads_89 : decode cX9_reads 89 = .ok (.bipush (-4), 2) := by decide +kernel
theorem dX9_reads_91 : decode cX9_reads 91 = .ok (.ireturn, 1) := by decide +kernel
theorem dX9_write_0 : decode cX9_write 0 = .ok (.iload_n 1, 1) := by decide +kernel
theorem dX9_write_1 : decode cX9_write 1 = .ok (.bipush 32, 2) := by decide +kernel
theorem dX9_write_3 : decode cX9_write 3 = .ok (.if_icmp .lt 9, 3) := by decide +kernel
theorem dX9_write_6 : decode cX9_write 6 = .ok (.iload_n 1, 1) := by decide +kernel
theorem dX9_write_7 : decode cX9_write 7 = .ok (.bipush 126, 2) := by decide +kernel
theorem dX9_write_9 : decode cX9_write 9 = .ok (.if_icmp .le 5, 3) := by decide +kernel
theorem dX9_write_12 : decode cX9_write 12 = .ok (.iconst (-1), 1) := by decide +kernel
theorem dX9_write_13 : decode cX9_write 13 = .ok (.ireturn, 1) := by decide +kernel
theorem dX9_write_14 : decode cX9_write 14 = .ok (.aload_n 0, 1) := by decide +kernel
theorem dX9_write_15 : decode cX9_write 15 = .ok (.getfield 72, 3) := by decide +kernel
theorem dX9_write_18 : decode cX9_write 18 = .ok (.sipush 200, 3) := by decide +kernel
theorem dX9_write_21 : decode cX9_write 21 = .ok (.if_icmp .ne 6, 3) := by decide +kernel
theorem dX9_write_24 : decode cX9_write 24 = .ok (.bipush (-3), 2) := by decide +kernel
theorem dX9_write_26 : decode cX9_write 26 = .ok (.ireturn, 1) := by decide +kernel
theorem dX9_write_27 : decode cX9_write 27 = .ok (.aload_n 0, 1) := by decide +kernel
theorem dX9_write_28 : decode cX9_write 28 = .ok (.getfield 7, 3) := by decide +kernel
theorem dX9_write_31 : decode cX9_write 31 = .ok (.aload_n 0, 1) := by decide +kernel
theorem dX9_write_32 : decode cX9_write 32 = .ok (.getfield 72, 3) := by decide +kernel
theorem dX9_write_35 : decode cX9_write 35 = .ok (.iload_n 1, 1) := by decide +kernel
theorem dX9_write_36 : decode cX9_write 36 = .ok (.iastore, 1) := by decide +kernel
theorem dX9_write_37 : decode cX9_write 37 = .ok (.aload_n 0, 1) := by decide +kernel
theorem dX9_write_38 : decode cX9_write 38 = .ok (.dup, 1) := by decide +kernel
theorem dX9_write_39 : decode cX9_write 39 = .ok (.getfield 72, 3) := by decide +kernel
theorem dX9_write_42 : decode cX9_write 42 = .ok (.iconst 1, 1) := by decide +kernel
theorem dX9_write_43 : decode cX9_write 43 = .ok (.iadd, 1) := by decide +kernel
theorem dX9_write_44 : decode cX9_write 44 = .ok (.putfield 72, 3) := by decide +kernel
theorem dX9_write_47 : decode cX9_write 47 = .ok (.aload_n 0, 1) := by decide +kernel
theorem dX9_write_48 : decode cX9_write 48 = .ok (.getfield 72, 3) := by decide +kernel
theorem dX9_write_51 : decode cX9_write 51 = .ok (.ireturn, 1) := by decide +kernel
theorem dX9_wipe_0 : decode cX9_wipe 0 = .ok (.aload_n 0, 1) := by decide +kernel
theorem dX9_wipe_1 : decode cX9_wipe 1 = .ok (.getfield 72, 3) := by decide +kernel
theorem dX9_wipe_4 : decode cX9_wipe 4 = .ok (.istore_n 1, 1) := by decide +kernel
theorem dX9_wipe_5 : decode cX9_wipe 5 = .ok (.aload_n 0, 1) := by decide +kernel
theorem dX9_wipe_6 : decode cX9_wipe 6 = .ok (.iconst 0, 1) := by decide +kernel
theorem dX9_wipe_7 : decode cX9_wipe 7 = .ok (.putfield 72, 3) := by decide +kernel
theorem dX9_wipe_10 : decode cX9_wipe 10 = .ok (.iload_n 1, 1) := by decide +kernel
theorem dX9_wipe_11 : decode cX9_wipe 11 = .ok (.ireturn, 1) := by decide +kernel
theorem dX9_fault_0 : decode cX9_fault 0 = .ok (.aload_n 0, 1) := by decide +kernel
theorem dX9_fault_1 : decode cX9_fault 1 = .ok (.invokevirtual 121, 3) := by decide +kernel
theorem dX9_fault_4 : decode cX9_fault 4 = .ok (.ireturn, 1) := by decide +kernel
theorem dX9_lay_0 : decode cX9_lay 0 = .ok (.aload_n 0, 1) := by decide +kernel
theorem dX9_lay_1 : decode cX9_lay 1 = .ok (.invokevirtual 121, 3) := by decide +kernel
theorem dX9_lay_4 : decode cX9_lay 4 = .ok (.bipush (-4), 2) := by decide +kernel
theorem dX9_lay_6 : decode cX9_lay 6 = .ok (.if_icmp .ne 10, 3) := by decide +kernel
theorem dX9_lay_9 : decode cX9_lay 9 = .ok (.aload_n 0, 1) := by decide +kernel
theorem dX9_lay_10 : decode cX9_lay 10 = .ok (.getfield 92, 3) := by decide +kernel
theorem dX9_lay_13 : decode cX9_lay 13 = .ok (.ifCond .ne 6, 3) := by decide +kernel
theorem dX9_lay_16 : decode cX9_lay 16 = .ok (.bipush (-2), 2) := by decide +kernel
theorem dX9_lay_18 : decode cX9_lay 18 = .ok (.ireturn, 1) := by decide +kernel
theorem dX9_lay_19 : decode cX9_lay 19 = .ok (.aload_n 0, 1) := by decide +kernel
theorem dX9_lay_20 : decode cX9_lay 20 = .ok (.aload_n 0, 1) := by decide +kernel
theorem dX9_lay_21 : decode cX9_lay 21 = .ok (.getfield 92, 3) := by decide +kernel
theorem dX9_lay_24 : decode cX9_lay 24 = .ok (.putfield 58, 3) := by decide +kernel
theorem dX9_lay_27 : decode cX9_lay 27 = .ok (.aload_n 0, 1) := by decide +kernel
theorem dX9_lay_28 : decode cX9_lay 28 = .ok (.aload_n 0, 1) := by decide +kernel
theorem dX9_lay_29 : decode cX9_lay 29 = .ok (.getfield 99, 3) := by decide +kernel
theorem dX9_lay_32 : decode cX9_lay 32 = .ok (.putfield 65, 3) := by decide +kernel
theorem dX9_lay_35 : decode cX9_lay 35 = .ok (.aload_n 0, 1) := by decide +kernel
theorem dX9_lay_36 : decode cX9_lay 36 = .ok (.aload_n 0, 1) := by decide +kernel
theorem dX9_lay_37 : decode cX9_lay 37 = .ok (.getfield 102, 3) := by decide +kernel
theorem dX9_lay_40 : decode cX9_lay 40 = .ok (.putfield 62, 3) := by decide +kernel
theorem dX9_lay_43 : decode cX9_lay 43 = .ok (.iconst 0, 1) := by decide +kernel
theorem dX9_lay_44 : decode cX9_lay 44 = .ok (.istore_n 1, 1) := by decide +kernel
theorem dX9_lay_45 : decode cX9_lay 45 = .ok (.iload_n 1, 1) := by decide +kernel
theorem dX9_lay_46 : decode cX9_lay 46 = .ok (.bipush 6, 2) := by decide +kernel
theorem dX9_lay_48 : decode cX9_lay 48 = .ok (.if_icmp .ge 28, 3) := by decide +kernel
theorem dX9_lay_51 : decode cX9_lay 51 = .ok (.aload_n 0, 1) := by decide +kernel
theorem dX9_lay_52 : decode cX9_lay 52 = .ok (.getfield 13, 3) := by decide +kernel
theorem dX9_lay_55 : decode cX9_lay 55 = .ok (.iload_n 1, 1) := by decide +kernel
theorem dX9_lay_56 : decode cX9_lay 56 = .ok (.aload_n 0, 1) := by decide +kernel
theorem dX9_lay_57 : decode cX9_lay 57 = .ok (.getfield 34, 3) := by decide +kernel
theorem dX9_lay_60 : decode cX9_lay 60 = .ok (.iload_n 1, 1) := by decide +kernel
theorem dX9_lay_61 : decode cX9_lay 61 = .ok (.iaload, 1) := by decide +kernel
theorem dX9_lay_62 : decode cX9_lay 62 = .ok (.iastore, 1) := by decide +kernel
theorem dX9_lay_63 : decode cX9_lay 63 = .ok (.aload_n 0, 1) := by decide +kernel
theorem dX9_lay_64 : decode cX9_lay 64 = .ok (.getfield 22, 3) := by decide +kernel
theorem dX9_lay_67 : decode cX9_lay 67 = .ok (.iload_n 1, 1) := by decide +kernel
theorem dX9_lay_68 : decode cX9_lay 68 = .ok (.iconst 0, 1) := by decide +kernel
theorem dX9_lay_69 : decode cX9_lay 69 = .ok (.iastore, 1) := by decide +kernel
theorem dX9_lay_70 : decode cX9_lay 70 = .ok (.iinc 1 1, 3) := by decide +kernel
theorem dX9_lay_73 : decode cX9_lay 73 = .ok (.goto (-28), 3) := by decide +kernel
theorem dX9_lay_76 : decode cX9_lay 76 = .ok (.iconst 0, 1) := by decide +kernel
theorem dX9_lay_77 : decode cX9_lay 77 = .ok (.istore_n 1, 1) := by decide +kernel
theorem dX9_lay_78 : decode cX9_lay 78 = .ok (.iload_n 1, 1) := by decide +kernel
theorem dX9_lay_79 : decode cX9_lay 79 = .ok (.bipush 9, 2) := by decide +kernel
theorem dX9_lay_81 : decode cX9_lay 81 = .ok (.if_icmp .ge 33, 3) := by decide +kernel
theorem dX9_lay_84 : decode cX9_lay 84 = .ok (.aload_n 0, 1) := by decide +kernel
theorem dX9_lay_85 : decode cX9_lay 85 = .ok (.getfield 16, 3) := by decide +kernel
theorem dX9_lay_88 : decode cX9_lay 88 = .ok (.iload_n 1, 1) := by decide +kernel
theorem dX9_lay_89 : decode cX9_lay 89 = .ok (.aload_n 0, 1) := by decide +kernel
theorem dX9_lay_90 : decode cX9_lay 90 = .ok (.getfield 37, 3) := by decide +kernel
theorem dX9_lay_93 : decode cX9_lay 93 = .ok (.iload_n 1, 1) := by decide +kernel
theorem dX9_lay_94 : decode cX9_lay 94 = .ok (.iaload, 1) := by decide +kernel
theorem dX9_lay_95 : decode cX9_lay 95 = .ok (.iastore, 1) := by decide +kernel
theorem dX9_lay_96 : decode cX9_lay 96 = .ok (.aload_n 0, 1) := by decide +kernel
theorem dX9_lay_97 : decode cX9_lay 97 = .ok (.getfield 19, 3) := by decide +kernel
theorem dX9_lay_100 : decode cX9_lay 100 = .ok (.iload_n 1, 1) := by decide +kernel
theorem dX9_lay_101 : decode cX9_lay 101 = .ok (.aload_n 0, 1) := by decide +kernel
theorem dX9_lay_102 : decode cX9_lay 102 = .ok (.getfield 40, 3) := by decide +kernel
theorem dX9_lay_105 : decode cX9_lay 105 = .ok (.iload_n 1, 1) := by decide +kernel
theorem dX9_lay_106 : decode cX9_lay 106 = .ok (.iaload, 1) := by decide +kernel
theorem dX9_lay_107 : decode cX9_lay 107 = .ok (.iastore, 1) := by decide +kernel
theorem dX9_lay_108 : decode cX9_lay 108 = .ok (.iinc 1 1, 3) := by decide +kernel
theorem dX9_lay_111 : decode cX9_lay 111 = .ok (.goto (-33), 3) := by decide +kernel
theorem dX9_lay_114 : decode cX9_lay 114 = .ok (.iconst 0, 1) := by decide +kernel
theorem dX9_lay_115 : decode cX9_lay 115 = .ok (.istore_n 1, 1) := by decide +kernel
theorem dX9_lay_116 : decode cX9_lay 116 = .ok (.iload_n 1, 1) := by decide +kernel
theorem dX9_lay_117 : decode cX9_lay 117 = .ok (.sipush 169, 3) := by decide +kernel
theorem dX9_lay_120 : decode cX9_lay 120 = .ok (.if_icmp .ge 26, 3) := by decide +kernel
theorem dX9_lay_123 : decode cX9_lay 123 = .ok (.aload_n 0, 1) := by decide +kernel
theorem dX9_lay_124 : decode cX9_lay 124 = .ok (.getfield 25, 3) := by decide +kernel
theorem dX9_lay_127 : decode cX9_lay 127 = .ok (.iload_n 1, 1) := by decide +kernel
theorem dX9_lay_128 : decode cX9_lay 128 = .ok (.aload_n 0, 1) := by decide +kernel
theorem dX9_lay_129 : decode cX9_lay 129 = .ok (.aload_n 0, 1) := by decide +kernel
theorem dX9_lay_130 : decode cX9_lay 130 = .ok (.getfield 43, 3) := by decide +kernel
theorem dX9_lay_133 : decode cX9_lay 133 = .ok (.iload_n 1, 1) := by decide +kernel
theorem dX9_lay_134 : decode cX9_lay 134 = .ok (.iaload, 1) := by decide +kernel
theorem dX9_lay_135 : decode cX9_lay 135 = .ok (.iconst 0, 1) := by decide +kernel
theorem dX9_lay_136 : decode cX9_lay 136 = .ok (.invokevirtual 125, 3) := by decide +kernel
theorem dX9_lay_139 : decode cX9_lay 139 = .ok (.iastore, 1) := by decide +kernel
theorem dX9_lay_140 : decode cX9_lay 140 = .ok (.iinc 1 1, 3) := by decide +kernel
theorem dX9_lay_143 : decode cX9_lay 143 = .ok (.goto (-27), 3) := by decide +kernel
theorem dX9_lay_146 : decode cX9_lay 146 = .ok (.aload_n 0, 1) := by decide +kernel
theorem dX9_lay_147 : decode cX9_lay 147 = .ok (.iconst 0, 1) := by decide +kernel
theorem dX9_lay_148 : decode cX9_lay 148 = .ok (.putfield 129, 3) := by decide +kernel
theorem dX9_lay_151 : decode cX9_lay 151 = .ok (.aload_n 0, 1) := by decide +kernel
theorem dX9_lay_152 : decode cX9_lay 152 = .ok (.getfield 58, 3) := by decide +kernel
theorem dX9_lay_155 : decode cX9_lay 155 = .ok (.ireturn, 1) := by decide +kernel
theorem dX9_sum_0 : decode cX9_sum 0 = .ok (.iload_n 1, 1) := by decide +kernel
theorem dX9_sum_1 : decode cX9_sum 1 = .ok (.iload_n 2, 1) := by decide +kernel
theorem dX9_sum_2 : decode cX9_sum 2 = .ok (.iadd, 1) := by decide +kernel
theorem dX9_sum_3 : decode cX9_sum 3 = .ok (.aload_n 0, 1) := by decide +kernel
theorem dX9_sum_4 : decode cX9_sum 4 = .ok (.getfield 62, 3) := by decide +kernel
theorem dX9_sum_7 : decode cX9_sum 7 = .ok (.if_icmp .ge 9, 3) := by decide +kernel
theorem dX9_sum_10 : decode cX9_sum 10 = .ok (.iload_n 1, 1) := by decide +kernel
theorem dX9_sum_11 : decode cX9_sum 11 = .ok (.iload_n 2, 1) := by decide +kernel
theorem dX9_sum_12 : decode cX9_sum 12 = .ok (.iadd, 1) := by decide +kernel
theorem dX9_sum_13 : decode cX9_sum 13 = .ok (.goto 7, 3) := by decide +kernel
theorem dX9_sum_16 : decode cX9_sum 16 = .ok (.aload_n 0, 1) := by decide +kernel
theorem dX9_sum_17 : decode cX9_sum 17 = .ok (.getfield 62, 3) := by decide +kernel
theorem dX9_sum_20 : decode cX9_sum 20 = .ok (.ireturn, 1) := by decide +kernel
theorem dX9_less_0 : decode cX9_less 0 = .ok (.iload_n 1, 1) := by decide +kernel
theorem dX9_less_1 : decode cX9_less 1 = .ok (.aload_n 0, 1) := by decide +kernel
theorem dX9_less_2 : decode cX9_less 2 = .ok (.getfield 62, 3) := by decide +kernel
theorem dX9_less_5 : decode cX9_less 5 = .ok (.if_icmp .ne 10, 3) := by decide +kernel
theorem dX9_less_8 : decode cX9_less 8 = .ok (.aload_n 0, 1) := by decide +kernel
theorem dX9_less_9 : decode cX9_less 9 = .ok (.getfield 62, 3) := by decide +kernel
theorem dX9_less_12 : decode cX9_less 12 = .ok (.goto 6, 3) := by decide +kernel
theorem dX9_less_15 : decode cX9_less 15 = .ok (.iload_n 1, 1) := by decide +kernel
theorem dX9_less_16 : decode cX9_less 16 = .ok (.iload_n 2, 1) := by decide +kernel
theorem dX9_less_17 : decode cX9_less 17 = .ok (.isub, 1) := by decide +kernel
theorem dX9_less_18 : decode cX9_less 18 = .ok (.ireturn, 1) := by decide +kernel
theorem dX9_isName_0 : decode cX9_isName 0 = .ok (.iload_n 1, 1) := by decide +kernel
theorem dX9_isName_1 : decode cX9_isName 1 = .ok (.iconst 0, 1) := by decide +kernel
theorem dX9_isName_2 : decode cX9_isName 2 = .ok (.aload_n 0, 1) := by decide +kernel
theorem dX9_isName_3 : decode cX9_isName 3 = .ok (.getfield 58, 3) := by decide +kernel
theorem dX9_isName_6 : decode cX9_isName 6 = .ok (.iconst 1, 1) := by decide +kernel
theorem dX9_isName_7 : decode cX9_isName 7 = .ok (.isub, 1) := by decide +kernel
theorem dX9_isName_8 : decode cX9_isName 8 = .ok (.invokestatic 85, 3) := by decide +kernel
theorem dX9_isName_11 : decode cX9_isName 11 = .ok (.ireturn, 1) := by decide +kernel
theorem dX9_isValue_0 : decode cX9_isValue 0 = .ok (.aload_n 0, 1) := by decide +kernel
theorem dX9_isValue_1 : decode cX9_isValue 1 = .ok (.iload_n 1, 1) := by decide +kernel
theorem dX9_isValue_2 : decode cX9_isValue 2 = .ok (.invokevirtual 132, 3) := by decide +kernel
theorem dX9_isValue_5 : decode cX9_isValue 5 = .ok (.ifCond .eq 23, 3) := by decide +kernel
theorem dX9_isValue_8 : decode cX9_isValue 8 = .ok (.iload_n 2, 1) := by decide +kernel
theorem dX9_isValue_9 : decode cX9_isValue 9 = .ok (.iconst 0, 1) := by decide +kernel
theorem dX9_isValue_10 : decode cX9_isValue 10 = .ok (.aload_n 0, 1) := by decide +kernel
theorem dX9_isValue_11 : decode cX9_isValue 11 = .ok (.getfield 13, 3) := by decide +kernel
theorem dX9_isValue_14 : decode cX9_isValue 14 = .ok (.iload_n 1, 1) := by decide +kernel
theorem dX9_isValue_15 : decode cX9_isValue 15 = .ok (.iaload, 1) := by decide +kernel
theorem dX9_isValue_16 : decode cX9_isValue 16 = .ok (.iconst 1, 1) := by decide +kernel
theorem dX9_isValue_17 : decode cX9_isValue 17 = .ok (.isub, 1) := by decide +kernel
theorem dX9_isValue_18 : decode cX9_isValue 18 = .ok (.invokestatic 85, 3) := by decide +kernel
theorem dX9_isValue_21 : decode cX9_isValue 21 = .ok (.ifCond .eq 7, 3) := by decide +kernel
theorem dX9_isValue_24 : decode cX9_isValue 24 = .ok (.iconst 1, 1) := by decide +kernel
theorem dX9_isValue_25 : decode cX9_isValue 25 = .ok (.goto 4, 3) := by decide +kernel
theorem dX9_isValue_28 : decode cX9_isValue 28 = .ok (.iconst 0, 1) := by decide +kernel
theorem dX9_isValue_29 : decode cX9_isValue 29 = .ok (.ireturn, 1) := by decide +kernel
theorem dX9_isTable_0 : decode cX9_isTable 0 = .ok (.iload_n 1, 1) := by decide +kernel
theorem dX9_isTable_1 : decode cX9_isTable 1 = .ok (.iconst 0, 1) := by decide +kernel
theorem dX9_isTable_2 : decode cX9_isTable 2 = .ok (.aload_n 0, 1) := by decide +kernel
theorem dX9_isTable_3 : decode cX9_isTable 3 = .ok (.getfield 65, 3) := by decide +kernel
theorem dX9_isTable_6 : decode cX9_isTable 6 = .ok (.iconst 1, 1) := by decide +kernel
theorem dX9_isTable_7 : decode cX9_isTable 7 = .ok (.isub, 1) := by decide +kernel
theorem dX9_isTable_8 : decode cX9_isTable 8 = .ok (.invokestatic 85, 3) := by decide +kernel
theorem dX9_isTable_11 : decode cX9_isTable 11 = .ok (.ireturn, 1) := by decide +kernel
theorem dX9_nameOf_0 : decode cX9_nameOf 0 = .ok (.iload_n 2, 1) := by decide +kernel
theorem dX9_nameOf_1 : decode cX9_nameOf 1 = .ok (.ifCond .ne 12, 3) := by decide +kernel
theorem dX9_nameOf_4 : decode cX9_nameOf 4 = .ok (.aload_n 0, 1) := by decide +kernel
theorem dX9_nameOf_5 : decode cX9_nameOf 5 = .ok (.getfield 16, 3) := by decide +kernel
theorem dX9_nameOf_8 : decode cX9_nameOf 8 = .ok (.iload_n 1, 1) := by decide +kernel
theorem dX9_nameOf_9 : decode cX9_nameOf 9 = .ok (.iaload, 1) := by decide +kernel
theorem dX9_nameOf_10 : decode cX9_nameOf 10 = .ok (.goto 9, 3) := by decide +kernel
theorem dX9_nameOf_13 : decode cX9_nameOf 13 = .ok (.aload_n 0, 1) := by decide +kernel
theorem dX9_nameOf_14 : decode cX9_nameOf 14 = .ok (.getfield 19, 3) := by decide +kernel
theorem dX9_nameOf_17 : decode cX9_nameOf 17 = .ok (.iload_n 1, 1) := by decide +kernel
theorem dX9_nameOf_18 : decode cX9_nameOf 18 = .ok (.iaload, 1) := by decide +kernel
theorem dX9_nameOf_19 : decode cX9_nameOf 19 = .ok (.ireturn, 1) := by decide +kernel
theorem dX9_pairAt_0 : decode cX9_pairAt 0 = .ok (.bipush 24, 2) := by decide +kernel
theorem dX9_pairAt_2 : decode cX9_pairAt 2 = .ok (.bipush 16, 2) := by decide +kernel
theorem dX9_pairAt_4 : decode cX9_pairAt 4 = .ok (.iload_n 0, 1) := by decide +kernel
theorem dX9_pairAt_5 : decode cX9_pairAt 5 = .ok (.imul, 1) := by decide +kernel
theorem dX9_pairAt_6 : decode cX9_pairAt 6 = .ok (.iadd, 1) := by decide +kernel
theorem dX9_pairAt_7 : decode cX9_pairAt 7 = .ok (.iload_n 1, 1) := by decide +kernel
theorem dX9_pairAt_8 : decode cX9_pairAt 8 = .ok (.ifCond .ne 11, 3) := by decide +kernel
theorem dX9_pairAt_11 : decode cX9_pairAt 11 = .ok (.iconst 4, 1) := by decide +kernel
theorem dX9_pairAt_12 : decode cX9_pairAt 12 = .ok (.iload_n 2, 1) := by decide +kernel
theorem dX9_pairAt_13 : decode cX9_pairAt 13 = .ok (.imul, 1) := by decide +kernel
theorem dX9_pairAt_14 : decode cX9_pairAt 14 = .ok (.iload_n 3, 1) := by decide +kernel
theorem dX9_pairAt_15 : decode cX9_pairAt 15 = .ok (.iadd, 1) := by decide +kernel
theorem dX9_pairAt_16 : decode cX9_pairAt 16 = .ok (.goto 8, 3) := by decide +kernel
theorem dX9_pairAt_19 : decode cX9_pairAt 19 = .ok (.iconst 4, 1) := by decide +kernel
theorem dX9_pairAt_20 : decode cX9_pairAt 20 = .ok (.iload_n 3, 1) := by decide +kernel
theorem dX9_pairAt_21 : decode cX9_pairAt 21 = .ok (.imul, 1) := by decide +kernel
theorem dX9_pairAt_22 : decode cX9_pairAt 22 = .ok (.iload_n 2, 1) := by decide +kernel
theorem dX9_pairAt_23 : decode cX9_pairAt 23 = .ok (.iadd, 1) := by decide +kernel
theorem dX9_pairAt_24 : decode cX9_pairAt 24 = .ok (.iadd, 1) := by decide +kernel
theorem dX9_pairAt_25 : decode cX9_pairAt 25 = .ok (.ireturn, 1) := by decide +kernel
theorem dX9_leastSingle_0 : decode cX9_leastSingle 0 = .ok (.aload_n 0, 1) := by decide +kernel
theorem dX9_leastSingle_1 : decode cX9_leastSingle 1 = .ok (.getfield 25, 3) := by decide +kernel
theorem dX9_leastSingle_4 : decode cX9_leastSingle 4 = .ok (.iconst 4, 1) := by decide +kernel
theorem dX9_leastSingle_5 : decode cX9_leastSingle 5 = .ok (.iload_n 1, 1) := by decide +kernel
theorem dX9_leastSingle_6 : decode cX9_leastSingle 6 = .ok (.imul, 1) := by decide +kernel
theorem dX9_leastSingle_7 : decode cX9_leastSingle 7 = .ok (.iaload, 1) := by decide +kernel
theorem dX9_leastSingle_8 : decode cX9_leastSingle 8 = .ok (.istore_n 2, 1) := by decide +kernel
theorem dX9_leastSingle_9 : decode cX9_leastSingle 9 = .ok (.iconst 1, 1) := by decide +kernel
theorem dX9_leastSingle_10 : decode cX9_leastSingle 10 = .ok (.istore_n 3, 1) := by decide +kernel
theorem dX9_leastSingle_11 : decode cX9_leastSingle 11 = .ok (.iload_n 3, 1) := by decide +kernel
theorem dX9_leastSingle_12 : decode cX9_leastSingle 12 = .ok (.aload_n 0, 1) := by decide +kernel
theorem dX9_leastSingle_13 : decode cX9_leastSingle 13 = .ok (.getfield 13, 3) := by decide +kernel
theorem dX9_leastSingle_16 : decode cX9_leastSingle 16 = .ok (.iload_n 1, 1) := by decide +kernel
theorem dX9_leastSingle_17 : decode cX9_leastSingle 17 = .ok (.iaload, 1) := by decide +kernel
theorem dX9_leastSingle_18 : decode cX9_leastSingle 18 = .ok (.if_icmp .ge 38, 3) := by decide +kernel
theorem dX9_leastSingle_21 : decode cX9_leastSingle 21 = .ok (.aload_n 0, 1) := by decide +kernel
theorem dX9_leastSingle_22 : decode cX9_leastSingle 22 = .ok (.getfield 25, 3) := by decide +kernel
theorem dX9_leastSingle_25 : decode cX9_leastSingle 25 = .ok (.iconst 4, 1) := by decide +kernel
theorem dX9_leastSingle_26 : decode cX9_leastSingle 26 = .ok (.iload_n 1, 1) := by decide +kernel
theorem dX9_leastSingle_27 : decode cX9_leastSingle 27 = .ok (.imul, 1) := by decide +kernel
theorem dX9_leastSingle_28 : decode cX9_leastSingle 28 = .ok (.iload_n 3, 1) := by decide +kernel
theorem dX9_leastSingle_29 : decode cX9_leastSingle 29 = .ok (.iadd, 1) := by decide +kernel
theorem dX9_leastSingle_30 : decode cX9_leastSingle 30 = .ok (.iaload, 1) := by decide +kernel
theorem dX9_leastSingle_31 : decode cX9_leastSingle 31 = .ok (.iload_n 2, 1) := by decide +kernel
theorem dX9_leastSingle_32 : decode cX9_leastSingle 32 = .ok (.if_icmp .ge 16, 3) := by decide +kernel
theorem dX9_leastSingle_35 : decode cX9_leastSingle 35 = .ok (.aload_n 0, 1) := by decide +kernel
theorem dX9_leastSingle_36 : decode cX9_leastSingle 36 = .ok (.getfield 25, 3) := by decide +kernel
theorem dX9_leastSingle_39 : decode cX9_leastSingle 39 = .ok (.iconst 4, 1) := by decide +kernel
theorem dX9_leastSingle_40 : decode cX9_leastSingle 40 = .ok (.iload_n 1, 1) := by decide +kernel
theorem dX9_leastSingle_41 : decode cX9_leastSingle 41 = .ok (.imul, 1) := by decide +kernel
theorem dX9_leastSingle_42 : decode cX9_leastSingle 42 = .ok (.iload_n 3, 1) := by decide +kernel
theorem dX9_leastSingle_43 : decode cX9_leastSingle 43 = .ok (.iadd, 1) := by decide +kernel
theorem dX9_leastSingle_44 : decode cX9_leastSingle 44 = .ok (.iaload, 1) := by decide +kernel
theorem dX9_leastSingle_45 : decode cX9_leastSingle 45 = .ok (.goto 4, 3) := by decide +kernel
theorem dX9_leastSingle_48 : decode cX9_leastSingle 48 = .ok (.iload_n 2, 1) := by decide +kernel
theorem dX9_leastSingle_49 : decode cX9_leastSingle 49 = .ok (.istore_n 2, 1) := by decide +kernel
theorem dX9_leastSingle_50 : decode cX9_leastSingle 50 = .ok (.iinc 3 1, 3) := by decide +kernel
theorem dX9_leastSingle_53 : decode cX9_leastSingle 53 = .ok (.goto (-42), 3) := by decide +kernel
theorem dX9_leastSingle_56 : decode cX9_leastSingle 56 = .ok (.iload_n 2, 1) := by decide +kernel
theorem dX9_leastSingle_57 : decode cX9_leastSingle 57 = .ok (.ireturn, 1) := by decide +kernel
theorem dX9_isShut_0 : decode cX9_isShut 0 = .ok (.aload_n 0, 1) := by decide +kernel
theorem dX9_isShut_1 : decode cX9_isShut 1 = .ok (.aload_n 0, 1) := by decide +kernel
theorem dX9_isShut_2 : decode cX9_isShut 2 = .ok (.getfield 25, 3) := by decide +kernel
theorem dX9_isShut_5 : decode cX9_isShut 5 = .ok (.sipush 168, 3) := by decide +kernel
theorem dX9_isShut_8 : decode cX9_isShut 8 = .ok (.iaload, 1) := by decide +kernel
theorem dX9_isShut_9 : decode cX9_isShut 9 = .ok (.aload_n 0, 1) := by decide +kernel
theorem dX9_isShut_10 : decode cX9_isShut 10 = .ok (.getfield 25, 3) := by decide +kernel
theorem dX9_isShut_13 : decode cX9_isShut 13 = .ok (.iconst 4, 1) := by decide +kernel
theorem dX9_isShut_14 : decode cX9_isShut 14 = .ok (.iload_n 1, 1) := by decide +kernel
theorem dX9_isShut_15 : decode cX9_isShut 15 = .ok (.imul, 1) := by decide +kernel
theorem dX9_isShut_16 : decode cX9_isShut 16 = .ok (.iload_n 2, 1) := by decide +kernel
theorem dX9_isShut_17 : decode cX9_isShut 17 = .ok (.iadd, 1) := by decide +kernel
theorem dX9_isShut_18 : decode cX9_isShut 18 = .ok (.iaload, 1) := by decide +kernel
theorem dX9_isShut_19 : decode cX9_isShut 19 = .ok (.invokevirtual 125, 3) := by decide +kernel
theorem dX9_isShut_22 : decode cX9_isShut 22 = .ok (.aload_n 0, 1) := by decide +kernel
theorem dX9_isShut_23 : decode cX9_isShut 23 = .ok (.getfield 62, 3) := by decide +kernel
theorem dX9_isShut_26 : decode cX9_isShut 26 = .ok (.if_icmp .ne 7, 3) := by decide +kernel
theorem dX9_isShut_29 : decode cX9_isShut 29 = .ok (.iconst 1, 1) := by decide +kernel
theorem dX9_isShut_30 : decode cX9_isShut 30 = .ok (.goto 4, 3) := by decide +kernel
theorem dX9_isShut_33 : decode cX9_isShut 33 = .ok (.iconst 0, 1) := by decide +kernel
theorem dX9_isShut_34 : decode cX9_isShut 34 = .ok (.ireturn, 1) := by decide +kernel
theorem dX9_name_0 : decode cX9_name 0 = .ok (.aload_n 0, 1) := by decide +kernel
theorem dX9_name_1 : decode cX9_name 1 = .ok (.iload_n 1, 1) := by decide +kernel
theorem dX9_name_2 : decode cX9_name 2 = .ok (.invokevirtual 132, 3) := by decide +kernel
theorem dX9_name_5 : decode cX9_name 5 = .ok (.ifCond .eq 12, 3) := by decide +kernel
theorem dX9_name_8 : decode cX9_name 8 = .ok (.iload_n 2, 1) := by decide +kernel
theorem dX9_name_9 : decode cX9_name 9 = .ok (.iconst 0, 1) := by decide +kernel
theorem dX9_name_10 : decode cX9_name 10 = .ok (.iconst 3, 1) := by decide +kernel
theorem dX9_name_11 : decode cX9_name 11 = .ok (.invokestatic 85, 3) := by decide +kernel
theorem dX9_name_14 : decode cX9_name 14 = .ok (.ifCond .ne 5, 3) := by decide +kernel
theorem dX9_name_17 : decode cX9_name 17 = .ok (.iconst (-1), 1) := by decide +kernel
theorem dX9_name_18 : decode cX9_name 18 = .ok (.ireturn, 1) := by decide +kernel
theorem dX9_name_19 : decode cX9_name 19 = .ok (.iload_n 2, 1) := by decide +kernel
theorem dX9_name_20 : decode cX9_name 20 = .ok (.ifCond .eq 8, 3) := by decide +kernel
theorem dX9_name_23 : decode cX9_name 23 = .ok (.iload_n 2, 1) := by decide +kernel
theorem dX9_name_24 : decode cX9_name 24 = .ok (.iconst 3, 1) := by decide +kernel
theorem dX9_name_25 : decode cX9_name 25 = .ok (.if_icmp .ne 22, 3) := by decide +kernel
theorem dX9_name_28 : decode cX9_name 28 = .ok (.iload_n 2, 1) := by decide +kernel
theorem dX9_name_29 : decode cX9_name 29 = .ok (.ifCond .ne 12, 3) := by decide +kernel
theorem dX9_name_32 : decode cX9_name 32 = .ok (.aload_n 0, 1) := by decide +kernel
theorem dX9_name_33 : decode cX9_name 33 = .ok (.getfield 13, 3) := by decide +kernel
theorem dX9_name_36 : decode cX9_name 36 = .ok (.iload_n 1, 1) := by decide +kernel
theorem dX9_name_37 : decode cX9_name 37 = .ok (.iaload, 1) := by decide +kernel
theorem dX9_name_38 : decode cX9_name 38 = .ok (.goto 8, 3) := by decide +kernel
theorem dX9_name_41 : decode cX9_name 41 = .ok (.aload_n 0, 1) := by decide +kernel
theorem dX9_name_42 : decode cX9_name 42 = .ok (.iload_n 1, 1) := by decide +kernel
theorem dX9_name_43 : decode cX9_name 43 = .ok (.invokevirtual 135, 3) := by decide +kernel
theorem dX9_name_46 : decode cX9_name 46 = .ok (.ireturn, 1) := by decide +kernel
theorem dX9_name_47 : decode cX9_name 47 = .ok (.iconst 0, 1) := by decide +kernel
theorem dX9_name_48 : decode cX9_name 48 = .ok (.istore_n 3, 1) := by decide +kernel
theorem dX9_name_49 : decode cX9_name 49 = .ok (.iload_n 2, 1) := by decide +kernel
theorem dX9_name_50 : decode cX9_name 50 = .ok (.iconst 1, 1) := by decide +kernel
theorem dX9_name_51 : decode cX9_name 51 = .ok (.if_icmp .ne 57, 3) := by decide +kernel
theorem dX9_name_54 : decode cX9_name 54 = .ok (.iconst 0, 1) := by decide +kernel
theorem dX9_name_55 : decode cX9_name 55 = .ok (.istore 4, 2) := by decide +kernel
theorem dX9_name_57 : decode cX9_name 57 = .ok (.iload 4, 2) := by decide +kernel
theorem dX9_name_59 : decode cX9_name 59 = .ok (.aload_n 0, 1) := by decide +kernel
theorem dX9_name_60 : decode cX9_name 60 = .ok (.getfield 65, 3) := by decide +kernel
theorem dX9_name_63 : decode cX9_name 63 = .ok (.if_icmp .ge 42, 3) := by decide +kernel
theorem dX9_name_66 : decode cX9_name 66 = .ok (.iload_n 3, 1) := by decide +kernel
theorem dX9_name_67 : decode cX9_name 67 = .ok (.aload_n 0, 1) := by decide +kernel
theorem dX9_name_68 : decode cX9_name 68 = .ok (.getfield 16, 3) := by decide +kernel
theorem dX9_name_71 : decode cX9_name 71 = .ok (.iload 4, 2) := by decide +kernel
theorem dX9_name_73 : decode cX9_name 73 = .ok (.iaload, 1) := by decide +kernel
theorem dX9_name_74 : decode cX9_name 74 = .ok (.iload_n 1, 1) := by decide +kernel
theorem dX9_name_75 : decode cX9_name 75 = .ok (.if_icmp .eq 14, 3) := by decide +kernel
theorem dX9_name_78 : decode cX9_name 78 = .ok (.aload_n 0, 1) := by decide +kernel
theorem dX9_name_79 : decode cX9_name 79 = .ok (.getfield 19, 3) := by decide +kernel
theorem dX9_name_82 : decode cX9_name 82 = .ok (.iload 4, 2) := by decide +kernel
theorem dX9_name_84 : decode cX9_name 84 = .ok (.iaload, 1) := by decide +kernel
theorem dX9_name_85 : decode cX9_name 85 = .ok (.iload_n 1, 1) := by decide +kernel
theorem dX9_name_86 : decode cX9_name 86 = .ok (.if_icmp .ne 10, 3) := by decide +kernel
theorem dX9_name_89 : decode cX9_name 89 = .ok (.iconst 1, 1) := by decide +kernel
theorem dX9_name_90 : decode cX9_name 90 = .ok (.iload 4, 2) := by decide +kernel
theorem dX9_name_92 : decode cX9_name 92 = .ok (.ishl, 1) := by decide +kernel
theorem dX9_name_93 : decode cX9_name 93 = .ok (.goto 4, 3) := by decide +kernel
theorem dX9_name_96 : decode cX9_name 96 = .ok (.iconst 0, 1) := by decide +kernel
theorem dX9_name_97 : decode cX9_name 97 = .ok (.ior, 1) := by decide +kernel
theorem dX9_name_98 : decode cX9_name 98 = .ok (.istore_n 3, 1) := by decide +kernel
theorem dX9_name_99 : decode cX9_name 99 = .ok (.iinc 4 1, 3) := by decide +kernel
theorem dX9_name_102 : decode cX9_name 102 = .ok (.goto (-45), 3) := by decide +kernel
theorem dX9_name_105 : decode cX9_name 105 = .ok (.goto 44, 3) := by decide +kernel
theorem dX9_name_108 : decode cX9_name 108 = .ok (.iconst 0, 1) := by decide +kernel
theorem dX9_name_109 : decode cX9_name 109 = .ok (.istore 4, 2) := by decide +kernel
theorem dX9_name_111 : decode cX9_name 111 = .ok (.iload 4, 2) := by decide +kernel
theorem dX9_name_113 : decode cX9_name 113 = .ok (.aload_n 0, 1) := by decide +kernel
theorem dX9_name_114 : decode cX9_name 114 = .ok (.getfield 13, 3) := by decide +kernel
theorem dX9_name_117 : decode cX9_name 117 = .ok (.iload_n 1, 1) := by decide +kernel
theorem dX9_name_118 : decode cX9_name 118 = .ok (.iaload, 1) := by decide +kernel
theorem dX9_name_119 : decode cX9_name 119 = .ok (.if_icmp .ge 30, 3) := by decide +kernel
theorem dX9_name_122 : decode cX9_name 122 = .ok (.iload_n 3, 1) := by decide +kernel
theorem dX9_name_123 : decode cX9_name 123 = .ok (.aload_n 0, 1) := by decide +kernel
theorem dX9_name_124 : decode cX9_name 124 = .ok (.iload_n 1, 1) := by decide +kernel
theorem dX9_name_125 : decode cX9_name 125 = .ok (.iload 4, 2) := by decide +kernel
theorem dX9_name_127 : decode cX9_name 127 = .ok (.invokevirtual 138, 3) := by decide +kernel
theorem dX9_name_130 : decode cX9_name 130 = .ok (.ifCond .eq 10, 3) := by decide +kernel
theorem dX9_name_133 : decode cX9_name 133 = .ok (.iconst 1, 1) := by decide +kernel
theorem dX9_name_134 : decode cX9_name 134 = .ok (.iload 4, 2) := by decide +kernel
theorem dX9_name_136 : decode cX9_name 136 = .ok (.ishl, 1) := by decide +kernel
theorem dX9_name_137 : decode cX9_name 137 = .ok (.goto 4, 3) := by decide +kernel
theorem dX9_name_140 : decode cX9_name 140 = .ok (.iconst 0, 1) := by decide +kernel
theorem dX9_name_141 : decode cX9_name 141 = .ok (.ior, 1) := by decide +kernel
theorem dX9_name_142 : decode cX9_name 142 = .ok (.istore_n 3, 1) := by decide +kernel
theorem dX9_name_143 : decode cX9_name 143 = .ok (.iinc 4 1, 3) := by decide +kernel
theorem dX9_name_146 : decode cX9_name 146 = .ok (.goto (-35), 3) := by decide +kernel
theorem dX9_name_149 : decode cX9_name 149 = .ok (.iload_n 3, 1) := by decide +kernel
theorem dX9_name_150 : decode cX9_name 150 = .ok (.ireturn, 1) := by decide +kernel
theorem dX9_single_0 : decode cX9_single 0 = .ok (.aload_n 0, 1) := by decide +kernel
theorem dX9_single_1 : decode cX9_single 1 = .ok (.iload_n 1, 1) := by decide +kernel
theorem dX9_single_2 : decode cX9_single 2 = .ok (.iload_n 2, 1) := by decide +kernel
theorem dX9_single_3 : decode cX9_single 3 = .ok (.invokevirtual 141, 3) := by decide +kernel
theorem dX9_single_6 : decode cX9_single 6 = .ok (.ifCond .eq 16, 3) := by decide +kernel
theorem dX9_single_9 : decode cX9_single 9 = .ok (.aload_n 0, 1) := by decide +kernel
theorem dX9_single_10 : decode cX9_single 10 = .ok (.getfield 25, 3) := by decide +kernel
theorem dX9_single_13 : decode cX9_single 13 = .ok (.iconst 4, 1) := by decide +kernel
theorem dX9_single_14 : decode cX9_single 14 = .ok (.iload_n 1, 1) := by decide +kernel
theorem dX9_single_15 : decode cX9_single 15 = .ok (.imul, 1) := by decide +kernel
theorem dX9_single_16 : decode cX9_single 16 = .ok (.iload_n 2, 1) := by decide +kernel
theorem dX9_single_17 : decode cX9_single 17 = .ok (.iadd, 1) := by decide +kernel
theorem dX9_single_18 : decode cX9_single 18 = .ok (.iaload, 1) := by decide +kernel
theorem dX9_single_19 : decode cX9_single 19 = .ok (.goto 4, 3) := by decide +kernel
theorem dX9_single_22 : decode cX9_single 22 = .ok (.iconst (-1), 1) := by decide +kernel
theorem dX9_single_23 : decode cX9_single 23 = .ok (.ireturn, 1) := by decide +kernel
theorem dX9_table_0 : decode cX9_table 0 = .ok (.aload_n 0, 1) := by decide +kernel
theorem dX9_table_1 : decode cX9_table 1 = .ok (.iload_n 1, 1) := by decide +kernel
theorem dX9_table_2 : decode cX9_table 2 = .ok (.invokevirtual 144, 3) := by decide +kernel
theorem dX9_table_5 : decode cX9_table 5 = .ok (.ifCond .eq 12, 3) := by decide +kernel
theorem dX9_table_8 : decode cX9_table 8 = .ok (.iload_n 2, 1) := by decide +kernel
theorem dX9_table_9 : decode cX9_table 9 = .ok (.iconst 0, 1) := by decide +kernel
theorem dX9_table_10 : decode cX9_table 10 = .ok (.iconst 3, 1) := by decide +kernel
theorem dX9_table_11 : decode cX9_table 11 = .ok (.invokestatic 85, 3) := by decide +kernel
theorem dX9_table_14 : decode cX9_table 14 = .ok (.ifCond .ne 5, 3) := by decide +kernel
theorem dX9_table_17 : decode cX9_table 17 = .ok (.iconst (-1), 1) := by decide +kernel
theorem dX9_table_18 : decode cX9_table 18 = .ok (.ireturn, 1) := by decide +kernel
theorem dX9_table_19 : decode cX9_table 19 = .ok (.iload_n 2, 1) := by decide +kernel
theorem dX9_table_20 : decode cX9_table 20 = .ok (.iconst 2, 1) := by decide +kernel
theorem dX9_table_21 : decode cX9_table 21 = .ok (.if_icmp .ge 10, 3) := by decide +kernel
theorem dX9_table_24 : decode cX9_table 24 = .ok (.aload_n 0, 1) := by decide +kernel
theorem dX9_table_25 : decode cX9_table 25 = .ok (.iload_n 1, 1) := by decide +kernel
theorem dX9_table_26 : decode cX9_table 26 = .ok (.iload_n 2, 1) := by decide +kernel
theorem dX9_table_27 : decode cX9_table 27 = .ok (.invokevirtual 147, 3) := by decide +kernel
theorem dX9_table_30 : decode cX9_table 30 = .ok (.ireturn, 1) := by decide +kernel
theorem dX9_table_31 : decode cX9_table 31 = .ok (.aload_n 0, 1) := by decide +kernel
theorem dX9_table_32 : decode cX9_table 32 = .ok (.getfield 62, 3) := by decide +kernel
theorem dX9_table_35 : decode cX9_table 35 = .ok (.istore_n 3, 1) := by decide +kernel
theorem dX9_table_36 : decode cX9_table 36 = .ok (.iconst 0, 1) := by decide +kernel
theorem dX9_table_37 : decode cX9_table 37 = .ok (.istore 4, 2) := by decide +kernel
theorem dX9_table_39 : decode cX9_table 39 = .ok (.iconst 0, 1) := by decide +kernel
theorem dX9_table_40 : decode cX9_table 40 = .ok (.istore 5, 2) := by decide +kernel
theorem dX9_table_42 : decode cX9_table 42 = .ok (.iload 5, 2) := by decide +kernel
theorem dX9_table_44 : decode cX9_table 44 = .ok (.aload_n 0, 1) := by decide +kernel
theorem dX9_table_45 : decode cX9_table 45 = .ok (.getfield 13, 3) := by decide +kernel
theorem dX9_table_48 : decode cX9_table 48 = .ok (.aload_n 0, 1) := by decide +kernel
theorem dX9_table_49 : decode cX9_table 49 = .ok (.getfield 16, 3) := by decide +kernel
theorem dX9_table_52 : decode cX9_table 52 = .ok (.iload_n 1, 1) := by decide +kernel
theorem dX9_table_53 : decode cX9_table 53 = .ok (.iaload, 1) := by decide +kernel
theorem dX9_table_54 : decode cX9_table 54 = .ok (.iaload, 1) := by decide +kernel
theorem dX9_table_55 : decode cX9_table 55 = .ok (.if_icmp .ge 79, 3) := by decide +kernel
theorem dX9_table_58 : decode cX9_table 58 = .ok (.iconst 0, 1) := by decide +kernel
theorem dX9_table_59 : decode cX9_table 59 = .ok (.istore 6, 2) := by decide +kernel
theorem dX9_table_61 : decode cX9_table 61 = .ok (.iload 6, 2) := by decide +kernel
theorem dX9_table_63 : decode cX9_table 63 = .ok (.aload_n 0, 1) := by decide +kernel
theorem dX9_table_64 : decode cX9_table 64 = .ok (.getfield 13, 3) := by decide +kernel
theorem dX9_table_67 : decode cX9_table 67 = .ok (.aload_n 0, 1) := by decide +kernel
theorem dX9_table_68 : decode cX9_table 68 = .ok (.getfield 19, 3) := by decide +kernel
theorem dX9_table_71 : decode cX9_table 71 = .ok (.iload_n 1, 1) := by decide +kernel
theorem dX9_table_72 : decode cX9_table 72 = .ok (.iaload, 1) := by decide +kernel
theorem dX9_table_73 : decode cX9_table 73 = .ok (.iaload, 1) := by decide +kernel
theorem dX9_table_74 : decode cX9_table 74 = .ok (.if_icmp .ge 54, 3) := by decide +kernel
theorem dX9_table_77 : decode cX9_table 77 = .ok (.aload_n 0, 1) := by decide +kernel
theorem dX9_table_78 : decode cX9_table 78 = .ok (.getfield 25, 3) := by decide +kernel
theorem dX9_table_81 : decode cX9_table 81 = .ok (.iload_n 1, 1) := by decide +kernel
theorem dX9_table_82 : decode cX9_table 82 = .ok (.iconst 0, 1) := by decide +kernel
theorem dX9_table_83 : decode cX9_table 83 = .ok (.iload 5, 2) := by decide +kernel
theorem dX9_table_85 : decode cX9_table 85 = .ok (.iload 6, 2) := by decide +kernel
theorem dX9_table_87 : decode cX9_table 87 = .ok (.invokestatic 150, 3) := by decide +kernel
theorem dX9_table_90 : decode cX9_table 90 = .ok (.iaload, 1) := by decide +kernel
theorem dX9_table_91 : decode cX9_table 91 = .ok (.istore 7, 2) := by decide +kernel
theorem dX9_table_93 : decode cX9_table 93 = .ok (.iload 7, 2) := by decide +kernel
theorem dX9_table_95 : decode cX9_table 95 = .ok (.iload_n 3, 1) := by decide +kernel
theorem dX9_table_96 : decode cX9_table 96 = .ok (.if_icmp .ge 8, 3) := by decide +kernel
theorem dX9_table_99 : decode cX9_table 99 = .ok (.iload 7, 2) := by decide +kernel
theorem dX9_table_101 : decode cX9_table 101 = .ok (.goto 4, 3) := by decide +kernel
theorem dX9_table_104 : decode cX9_table 104 = .ok (.iload_n 3, 1) := by decide +kernel
theorem dX9_table_105 : decode cX9_table 105 = .ok (.istore_n 3, 1) := by decide +kernel
theorem dX9_table_106 : decode cX9_table 106 = .ok (.iload 7, 2) := by decide +kernel
theorem dX9_table_108 : decode cX9_table 108 = .ok (.iload 4, 2) := by decide +kernel
theorem dX9_table_110 : decode cX9_table 110 = .ok (.if_icmp .le 8, 3) := by decide +kernel
theorem dX9_table_113 : decode cX9_table 113 = .ok (.iload 7, 2) := by decide +kernel
theorem dX9_table_115 : decode cX9_table 115 = .ok (.goto 5, 3) := by decide +kernel
theorem dX9_table_118 : decode cX9_table 118 = .ok (.iload 4, 2) := by decide +kernel
theorem dX9_table_120 : decode cX9_table 120 = .ok (.istore 4, 2) := by decide +kernel
theorem dX9_table_122 : decode cX9_table 122 = .ok (.iinc 6 1, 3) := by decide +kernel
theorem dX9_table_125 : decode cX9_table 125 = .ok (.goto (-64), 3) := by decide +kernel
theorem dX9_table_128 : decode cX9_table 128 = .ok (.iinc 5 1, 3) := by decide +kernel
theorem dX9_table_131 : decode cX9_table 131 = .ok (.goto (-89), 3) := by decide +kernel
theorem dX9_table_134 : decode cX9_table 134 = .ok (.iload_n 2, 1) := by decide +kernel
theorem dX9_table_135 : decode cX9_table 135 = .ok (.iconst 2, 1) := by decide +kernel
theorem dX9_table_136 : decode cX9_table 136 = .ok (.if_icmp .ne 7, 3) := by decide +kernel
theorem dX9_table_139 : decode cX9_table 139 = .ok (.iload_n 3, 1) := by decide +kernel
theorem dX9_table_140 : decode cX9_table 140 = .ok (.goto 5, 3) := by decide +kernel
theorem dX9_table_143 : decode cX9_table 143 = .ok (.iload 4, 2) := by decide +kernel
theorem dX9_table_145 : decode cX9_table 145 = .ok (.ireturn, 1) := by decide +kernel
theorem dX9_pair_0 : decode cX9_pair 0 = .ok (.aload_n 0, 1) := by decide +kernel
theorem dX9_pair_1 : decode cX9_pair 1 = .ok (.iload_n 1, 1) := by decide +kernel
theorem dX9_pair_2 : decode cX9_pair 2 = .ok (.invokevirtual 144, 3) := by decide +kernel
theorem dX9_pair_5 : decode cX9_pair 5 = .ok (.ifCond .eq 46, 3) := by decide +kernel
theorem dX9_pair_8 : decode cX9_pair 8 = .ok (.aload_n 0, 1) := by decide +kernel
theorem dX9_pair_9 : decode cX9_pair 9 = .ok (.aload_n 0, 1) := by decide +kernel
theorem dX9_pair_10 : decode cX9_pair 10 = .ok (.getfield 16, 3) := by decide +kernel
theorem dX9_pair_13 : decode cX9_pair 13 = .ok (.iload_n 1, 1) := by decide +kernel
theorem dX9_pair_14 : decode cX9_pair 14 = .ok (.iaload, 1) := by decide +kernel
theorem dX9_pair_15 : decode cX9_pair 15 = .ok (.iload_n 2, 1) := by decide +kernel
theorem dX9_pair_16 : decode cX9_pair 16 = .ok (.invokevirtual 141, 3) := by decide +kernel
theorem dX9_pair_19 : decode cX9_pair 19 = .ok (.ifCond .eq 32, 3) := by decide +kernel
theorem dX9_pair_22 : decode cX9_pair 22 = .ok (.aload_n 0, 1) := by decide +kernel
theorem dX9_pair_23 : decode cX9_pair 23 = .ok (.aload_n 0, 1) := by decide +kernel
theorem dX9_pair_24 : decode cX9_pair 24 = .ok (.getfield 19, 3) := by decide +kernel
theorem dX9_pair_27 : decode cX9_pair 27 = .ok (.iload_n 1, 1) := by decide +kernel
theorem dX9_pair_28 : decode cX9_pair 28 = .ok (.iaload, 1) := by decide +kernel
theorem dX9_pair_29 : decode cX9_pair 29 = .ok (.iload_n 3, 1) := by decide +kernel
theorem dX9_pair_30 : decode cX9_pair 30 = .ok (.invokevirtual 141, 3) := by decide +kernel
theorem dX9_pair_33 : decode cX9_pair 33 = .ok (.ifCond .eq 18, 3) := by decide +kernel
theorem dX9_pair_36 : decode cX9_pair 36 = .ok (.aload_n 0, 1) := by decide +kernel
theorem dX9_pair_37 : decode cX9_pair 37 = .ok (.getfield 25, 3) := by decide +kernel
theorem dX9_pair_40 : decode cX9_pair 40 = .ok (.iload_n 1, 1) := by decide +kernel
theorem dX9_pair_41 : decode cX9_pair 41 = .ok (.iconst 0, 1) := by decide +kernel
theorem dX9_pair_42 : decode cX9_pair 42 = .ok (.iload_n 2, 1) := by decide +kernel
theorem dX9_pair_43 : decode cX9_pair 43 = .ok (.iload_n 3, 1) := by decide +kernel
theorem dX9_pair_44 : decode cX9_pair 44 = .ok (.invokestatic 150, 3) := by decide +kernel
theorem dX9_pair_47 : decode cX9_pair 47 = .ok (.iaload, 1) := by decide +kernel
theorem dX9_pair_48 : decode cX9_pair 48 = .ok (.goto 4, 3) := by decide +kernel
theorem dX9_pair_51 : decode cX9_pair 51 = .ok (.iconst (-1), 1) := by decide +kernel
theorem dX9_pair_52 : decode cX9_pair 52 = .ok (.ireturn, 1) := by decide +kernel
theorem dX9_keeps_0 : decode cX9_keeps 0 = .ok (.aload_n 0, 1) := by decide +kernel
theorem dX9_keeps_1 : decode cX9_keeps 1 = .ok (.getfield 129, 3) := by decide +kernel
theorem dX9_keeps_4 : decode cX9_keeps 4 = .ok (.bipush 6, 2) := by decide +kernel
theorem dX9_keeps_6 : decode cX9_keeps 6 = .ok (.if_icmp .ne 44, 3) := by decide +kernel
theorem dX9_keeps_9 : decode cX9_keeps 9 = .ok (.iconst 0, 1) := by decide +kernel
theorem dX9_keeps_10 : decode cX9_keeps 10 = .ok (.istore_n 1, 1) := by decide +kernel
theorem dX9_keeps_11 : decode cX9_keeps 11 = .ok (.iload_n 1, 1) := by decide +kernel
theorem dX9_keeps_12 : decode cX9_keeps 12 = .ok (.sipush 845, 3) := by decide +kernel
theorem dX9_keeps_15 : decode cX9_keeps 15 = .ok (.if_icmp .ge 25, 3) := by decide +kernel
theorem dX9_keeps_18 : decode cX9_keeps 18 = .ok (.aload_n 0, 1) := by decide +kernel
theorem dX9_keeps_19 : decode cX9_keeps 19 = .ok (.getfield 28, 3) := by decide +kernel
theorem dX9_keeps_22 : decode cX9_keeps 22 = .ok (.iload_n 1, 1) := by decide +kernel
theorem dX9_keeps_23 : decode cX9_keeps 23 = .ok (.aload_n 0, 1) := by decide +kernel
theorem dX9_keeps_24 : decode cX9_keeps 24 = .ok (.getfield 28, 3) := by decide +kernel
theorem dX9_keeps_27 : decode cX9_keeps 27 = .ok (.iload_n 1, 1) := by decide +kernel
theorem dX9_keeps_28 : decode cX9_keeps 28 = .ok (.sipush 169, 3) := by decide +kernel
theorem dX9_keeps_31 : decode cX9_keeps 31 = .ok (.iadd, 1) := by decide +kernel
theorem dX9_keeps_32 : decode cX9_keeps 32 = .ok (.iaload, 1) := by decide +kernel
theorem dX9_keeps_33 : decode cX9_keeps 33 = .ok (.iastore, 1) := by decide +kernel
theorem dX9_keeps_34 : decode cX9_keeps 34 = .ok (.iinc 1 1, 3) := by decide +kernel
theorem dX9_keeps_37 : decode cX9_keeps 37 = .ok (.goto (-26), 3) := by decide +kernel
theorem dX9_keeps_40 : decode cX9_keeps 40 = .ok (.aload_n 0, 1) := by decide +kernel
theorem dX9_keeps_41 : decode cX9_keeps 41 = .ok (.dup, 1) := by decide +kernel
theorem dX9_keeps_42 : decode cX9_keeps 42 = .ok (.getfield 129, 3) := by decide +kernel
theorem dX9_keeps_45 : decode cX9_keeps 45 = .ok (.iconst 1, 1) := by decide +kernel
theorem dX9_keeps_46 : decode cX9_keeps 46 = .ok (.isub, 1) := by decide +kernel
theorem dX9_keeps_47 : decode cX9_keeps 47 = .ok (.putfield 129, 3) := by decide +kernel
theorem dX9_keeps_50 : decode cX9_keeps 50 = .ok (.iconst 0, 1) := by decide +kernel
theorem dX9_keeps_51 : decode cX9_keeps 51 = .ok (.istore_n 1, 1) := by decide +kernel
theorem dX9_keeps_52 : decode cX9_keeps 52 = .ok (.iload_n 1, 1) := by decide +kernel
theorem dX9_keeps_53 : decode cX9_keeps 53 = .ok (.sipush 169, 3) := by decide +kernel
theorem dX9_keeps_56 : decode cX9_keeps 56 = .ok (.if_icmp .ge 30, 3) := by decide +kernel
theorem dX9_keeps_59 : decode cX9_keeps 59 = .ok (.aload_n 0, 1) := by decide +kernel
theorem dX9_keeps_60 : decode cX9_keeps 60 = .ok (.getfield 28, 3) := by decide +kernel
theorem dX9_keeps_63 : decode cX9_keeps 63 = .ok (.sipush 169, 3) := by decide +kernel
theorem dX9_keeps_66 : decode cX9_keeps 66 = .ok (.aload_n 0, 1) := by decide +kernel
theorem dX9_keeps_67 : decode cX9_keeps 67 = .ok (.getfield 129, 3) := by decide +kernel
theorem dX9_keeps_70 : decode cX9_keeps 70 = .ok (.imul, 1) := by decide +kernel
theorem dX9_keeps_71 : decode cX9_keeps 71 = .ok (.iload_n 1, 1) := by decide +kernel
theorem dX9_keeps_72 : decode cX9_keeps 72 = .ok (.iadd, 1) := by decide +kernel
theorem dX9_keeps_73 : decode cX9_keeps 73 = .ok (.aload_n 0, 1) := by decide +kernel
theorem dX9_keeps_74 : decode cX9_keeps 74 = .ok (.getfield 25, 3) := by decide +kernel
theorem dX9_keeps_77 : decode cX9_keeps 77 = .ok (.iload_n 1, 1) := by decide +kernel
theorem dX9_keeps_78 : decode cX9_keeps 78 = .ok (.iaload, 1) := by decide +kernel
theorem dX9_keeps_79 : decode cX9_keeps 79 = .ok (.iastore, 1) := by decide +kernel
theorem dX9_keeps_80 : decode cX9_keeps 80 = .ok (.iinc 1 1, 3) := by decide +kernel
theorem dX9_keeps_83 : decode cX9_keeps 83 = .ok (.goto (-31), 3) := by decide +kernel
theorem dX9_keeps_86 : decode cX9_keeps 86 = .ok (.aload_n 0, 1) := by decide +kernel
theorem dX9_keeps_87 : decode cX9_keeps 87 = .ok (.dup, 1) := by decide +kernel
theorem dX9_keeps_88 : decode cX9_keeps 88 = .ok (.getfield 129, 3) := by decide +kernel
theorem dX9_keeps_91 : decode cX9_keeps 91 = .ok (.iconst 1, 1) := by decide +kernel
theorem dX9_keeps_92 : decode cX9_keeps 92 = .ok (.iadd, 1) := by decide +kernel
theorem dX9_keeps_93 : decode cX9_keeps 93 = .ok (.putfield 129, 3) := by decide +kernel
theorem dX9_keeps_96 : decode cX9_keeps 96 = .ok (.return_, 1) := by decide +kernel
theorem dX9_undo_0 : decode cX9_undo 0 = .ok (.aload_n 0, 1) := by decide +kernel
theorem dX9_undo_1 : decode cX9_undo 1 = .ok (.getfield 129, 3) := by decide +kernel
theorem dX9_undo_4 : decode cX9_undo 4 = .ok (.ifCond .ne 6, 3) := by decide +kernel
theorem dX9_undo_7 : decode cX9_undo 7 = .ok (.bipush (-2), 2) := by decide +kernel
theorem dX9_undo_9 : decode cX9_undo 9 = .ok (.ireturn, 1) := by decide +kernel
theorem dX9_undo_10 : decode cX9_undo 10 = .ok (.aload_n 0, 1) := by decide +kernel
theorem dX9_undo_11 : decode cX9_undo 11 = .ok (.dup, 1) := by decide +kernel
theorem dX9_undo_12 : decode cX9_undo 12 = .ok (.getfield 129, 3) := by decide +kernel
theorem dX9_undo_15 : decode cX9_undo 15 = .ok (.iconst 1, 1) := by decide +kernel
theorem dX9_undo_16 : decode cX9_undo 16 = .ok (.isub, 1) := by decide +kernel
theorem dX9_undo_17 : decode cX9_undo 17 = .ok (.putfield 129, 3) := by decide +kernel
theorem dX9_undo_20 : decode cX9_undo 20 = .ok (.iconst 0, 1) := by decide +kernel
theorem dX9_undo_21 : decode cX9_undo 21 = .ok (.istore_n 1, 1) := by decide +kernel
theorem dX9_undo_22 : decode cX9_undo 22 = .ok (.iload_n 1, 1) := by decide +kernel
theorem dX9_undo_23 : decode cX9_undo 23 = .ok (.sipush 169, 3) := by decide +kernel
theorem dX9_undo_26 : decode cX9_undo 26 = .ok (.if_icmp .ge 30, 3) := by decide +kernel
theorem dX9_undo_29 : decode cX9_undo 29 = .ok (.aload_n 0, 1) := by decide +kernel
theorem dX9_undo_30 : decode cX9_undo 30 = .ok (.getfield 25, 3) := by decide +kernel
theorem dX9_undo_33 : decode cX9_undo 33 = .ok (.iload_n 1, 1) := by decide +kernel
theorem dX9_undo_34 : decode cX9_undo 34 = .ok (.aload_n 0, 1) := by decide +kernel
theorem dX9_undo_35 : decode cX9_undo 35 = .ok (.getfield 28, 3) := by decide +kernel
theorem dX9_undo_38 : decode cX9_undo 38 = .ok (.sipush 169, 3) := by decide +kernel
theorem dX9_undo_41 : decode cX9_undo 41 = .ok (.aload_n 0, 1) := by decide +kernel
theorem dX9_undo_42 : decode cX9_undo 42 = .ok (.getfield 129, 3) := by decide +kernel
theorem dX9_undo_45 : decode cX9_undo 45 = .ok (.imul, 1) := by decide +kernel
theorem dX9_undo_46 : decode cX9_undo 46 = .ok (.iload_n 1, 1) := by decide +kernel
theorem dX9_undo_47 : decode cX9_undo 47 = .ok (.iadd, 1) := by decide +kernel
theorem dX9_undo_48 : decode cX9_undo 48 = .ok (.iaload, 1) := by decide +kernel
theorem dX9_undo_49 : decode cX9_undo 49 = .ok (.iastore, 1) := by decide +kernel
theorem dX9_undo_50 : decode cX9_undo 50 = .ok (.iinc 1 1, 3) := by decide +kernel
theorem dX9_undo_53 : decode cX9_undo 53 = .ok (.goto (-31), 3) := by decide +kernel
theorem dX9_undo_56 : decode cX9_undo 56 = .ok (.aload_n 0, 1) := by decide +kernel
theorem dX9_undo_57 : decode cX9_undo 57 = .ok (.getfield 129, 3) := by decide +kernel
theorem dX9_undo_60 : decode cX9_undo 60 = .ok (.ireturn, 1) := by decide +kernel
theorem dX9_grow_0 : decode cX9_grow 0 = .ok (.aload_n 0, 1) := by decide +kernel
theorem dX9_grow_1 : decode cX9_grow 1 = .ok (.iload_n 1, 1) := by decide +kernel
theorem dX9_grow_2 : decode cX9_grow 2 = .ok (.iload_n 2, 1) := by decide +kernel
theorem dX9_grow_3 : decode cX9_grow 3 = .ok (.invokevirtual 141, 3) := by decide +kernel
theorem dX9_grow_6 : decode cX9_grow 6 = .ok (.ifCond .eq 13, 3) := by decide +kernel
theorem dX9_grow_9 : decode cX9_grow 9 = .ok (.iload_n 3, 1) := by decide +kernel
theorem dX9_grow_10 : decode cX9_grow 10 = .ok (.iconst 1, 1) := by decide +kernel
theorem dX9_grow_11 : decode cX9_grow 11 = .ok (.bipush 99, 2) := by decide +kernel
theorem dX9_grow_13 : decode cX9_grow 13 = .ok (.invokestatic 85, 3) := by decide +kernel
theorem dX9_grow_16 : decode cX9_grow 16 = .ok (.ifCond .ne 5, 3) := by decide +kernel
theorem dX9_grow_19 : decode cX9_grow 19 = .ok (.iconst (-1), 1) := by decide +kernel
theorem dX9_grow_20 : decode cX9_grow 20 = .ok (.ireturn, 1) := by decide +kernel
theorem dX9_grow_21 : decode cX9_grow 21 = .ok (.aload_n 0, 1) := by decide +kernel
theorem dX9_grow_22 : decode cX9_grow 22 = .ok (.invokevirtual 154, 3) := by decide +kernel
theorem dX9_grow_25 : decode cX9_grow 25 = .ok (.aload_n 0, 1) := by decide +kernel
theorem dX9_grow_26 : decode cX9_grow 26 = .ok (.getfield 25, 3) := by decide +kernel
theorem dX9_grow_29 : decode cX9_grow 29 = .ok (.iconst 4, 1) := by decide +kernel
theorem dX9_grow_30 : decode cX9_grow 30 = .ok (.iload_n 1, 1) := by decide +kernel
theorem dX9_grow_31 : decode cX9_grow 31 = .ok (.imul, 1) := by decide +kernel
theorem dX9_grow_32 : decode cX9_grow 32 = .ok (.iload_n 2, 1) := by decide +kernel
theorem dX9_grow_33 : decode cX9_grow 33 = .ok (.iadd, 1) := by decide +kernel
theorem dX9_grow_34 : decode cX9_grow 34 = .ok (.aload_n 0, 1) := by decide +kernel
theorem dX9_grow_35 : decode cX9_grow 35 = .ok (.aload_n 0, 1) := by decide +kernel
theorem dX9_grow_36 : decode cX9_grow 36 = .ok (.getfield 25, 3) := by decide +kernel
theorem dX9_grow_39 : decode cX9_grow 39 = .ok (.iconst 4, 1) := by decide +kernel
theorem dX9_grow_40 : decode cX9_grow 40 = .ok (.iload_n 1, 1) := by decide +kernel
theorem dX9_grow_41 : decode cX9_grow 41 = .ok (.imul, 1) := by decide +kernel
theorem dX9_grow_42 : decode cX9_grow 42 = .ok (.iload_n 2, 1) := by decide +kernel
theorem dX9_grow_43 : decode cX9_grow 43 = .ok (.iadd, 1) := by decide +kernel
theorem dX9_grow_44 : decode cX9_grow 44 = .ok (.iaload, 1) := by decide +kernel
theorem dX9_grow_45 : decode cX9_grow 45 = .ok (.iload_n 3, 1) := by decide +kernel
theorem dX9_grow_46 : decode cX9_grow 46 = .ok (.invokevirtual 125, 3) := by decide +kernel
theorem dX9_grow_49 : decode cX9_grow 49 = .ok (.iastore, 1) := by decide +kernel
theorem dX9_grow_50 : decode cX9_grow 50 = .ok (.aload_n 0, 1) := by decide +kernel
theorem dX9_grow_51 : decode cX9_grow 51 = .ok (.getfield 25, 3) := by decide +kernel
theorem dX9_grow_54 : decode cX9_grow 54 = .ok (.iconst 4, 1) := by decide +kernel
theorem dX9_grow_55 : decode cX9_grow 55 = .ok (.iload_n 1, 1) := by decide +kernel
theorem dX9_grow_56 : decode cX9_grow 56 = .ok (.imul, 1) := by decide +kernel
theorem dX9_grow_57 : decode cX9_grow 57 = .ok (.iload_n 2, 1) := by decide +kernel
theorem dX9_grow_58 : decode cX9_grow 58 = .ok (.iadd, 1) := by decide +kernel
theorem dX9_grow_59 : decode cX9_grow 59 = .ok (.iaload, 1) := by decide +kernel
theorem dX9_grow_60 : decode cX9_grow 60 = .ok (.ireturn, 1) := by decide +kernel
theorem dX9_choose_0 : decode cX9_choose 0 = .ok (.aload_n 0, 1) := by decide +kernel
theorem dX9_choose_1 : decode cX9_choose 1 = .ok (.iload_n 1, 1) := by decide +kernel
theorem dX9_choose_2 : decode cX9_choose 2 = .ok (.iload_n 2, 1) := by decide +kernel
theorem dX9_choose_3 : decode cX9_choose 3 = .ok (.invokevirtual 141, 3) := by decide +kernel
theorem dX9_choose_6 : decode cX9_choose 6 = .ok (.ifCond .ne 5, 3) := by decide +kernel
theorem dX9_choose_9 : decode cX9_choose 9 = .ok (.iconst (-1), 1) := by decide +kernel
theorem dX9_choose_10 : decode cX9_choose 10 = .ok (.ireturn, 1) := by decide +kernel
theorem dX9_choose_11 : decode cX9_choose 11 = .ok (.aload_n 0, 1) := by decide +kernel
theorem dX9_choose_12 : decode cX9_choose 12 = .ok (.getfield 22, 3) := by decide +kernel
theorem dX9_choose_15 : decode cX9_choose 15 = .ok (.iload_n 1, 1) := by decide +kernel
theorem dX9_choose_16 : decode cX9_choose 16 = .ok (.iaload, 1) := by decide +kernel
theorem dX9_choose_17 : decode cX9_choose 17 = .ok (.istore_n 3, 1) := by decide +kernel
theorem dX9_choose_18 : decode cX9_choose 18 = .ok (.iload_n 3, 1) := by decide +kernel
theorem dX9_choose_19 : decode cX9_choose 19 = .ok (.iload_n 2, 1) := by decide +kernel
theorem dX9_choose_20 : decode cX9_choose 20 = .ok (.if_icmp .ne 6, 3) := by decide +kernel
theorem dX9_choose_23 : decode cX9_choose 23 = .ok (.bipush (-2), 2) := by decide +kernel
theorem dX9_choose_25 : decode cX9_choose 25 = .ok (.ireturn, 1) := by decide +kernel
theorem dX9_choose_26 : decode cX9_choose 26 = .ok (.aload_n 0, 1) := by decide +kernel
theorem dX9_choose_27 : decode cX9_choose 27 = .ok (.getfield 22, 3) := by decide +kernel
theorem dX9_choose_30 : decode cX9_choose 30 = .ok (.iload_n 1, 1) := by decide +kernel
theorem dX9_choose_31 : decode cX9_choose 31 = .ok (.iload_n 2, 1) := by decide +kernel
theorem dX9_choose_32 : decode cX9_choose 32 = .ok (.iastore, 1) := by decide +kernel
theorem dX9_choose_33 : decode cX9_choose 33 = .ok (.iload_n 3, 1) := by decide +kernel
theorem dX9_choose_34 : decode cX9_choose 34 = .ok (.ireturn, 1) := by decide +kernel
theorem dX9_leastPair_0 : decode cX9_leastPair 0 = .ok (.aload_n 0, 1) := by decide +kernel
theorem dX9_leastPair_1 : decode cX9_leastPair 1 = .ok (.getfield 62, 3) := by decide +kernel
theorem dX9_leastPair_4 : decode cX9_leastPair 4 = .ok (.istore 4, 2) := by decide +kernel
theorem dX9_leastPair_6 : decode cX9_leastPair 6 = .ok (.iconst 0, 1) := by decide +kernel
theorem dX9_leastPair_7 : decode cX9_leastPair 7 = .ok (.istore 5, 2) := by decide +kernel
theorem dX9_leastPair_9 : decode cX9_leastPair 9 = .ok (.iload 5, 2) := by decide +kernel
theorem dX9_leastPair_11 : decode cX9_leastPair 11 = .ok (.aload_n 0, 1) := by decide +kernel
theorem dX9_leastPair_12 : decode cX9_leastPair 12 = .ok (.getfield 13, 3) := by decide +kernel
theorem dX9_leastPair_15 : decode cX9_leastPair 15 = .ok (.aload_n 0, 1) := by decide +kernel
theorem dX9_leastPair_16 : decode cX9_leastPair 16 = .ok (.iload_n 1, 1) := by decide +kernel
theorem dX9_leastPair_17 : decode cX9_leastPair 17 = .ok (.iconst 1, 1) := by decide +kernel
theorem dX9_leastPair_18 : decode cX9_leastPair 18 = .ok (.iload_n 2, 1) := by decide +kernel
theorem dX9_leastPair_19 : decode cX9_leastPair 19 = .ok (.isub, 1) := by decide +kernel
theorem dX9_leastPair_20 : decode cX9_leastPair 20 = .ok (.invokevirtual 147, 3) := by decide +kernel
theorem dX9_leastPair_23 : decode cX9_leastPair 23 = .ok (.iaload, 1) := by decide +kernel
theorem dX9_leastPair_24 : decode cX9_leastPair 24 = .ok (.if_icmp .ge 40, 3) := by decide +kernel
theorem dX9_leastPair_27 : decode cX9_leastPair 27 = .ok (.aload_n 0, 1) := by decide +kernel
theorem dX9_leastPair_28 : decode cX9_leastPair 28 = .ok (.getfield 25, 3) := by decide +kernel
theorem dX9_leastPair_31 : decode cX9_leastPair 31 = .ok (.iload_n 1, 1) := by decide +kernel
theorem dX9_leastPair_32 : decode cX9_leastPair 32 = .ok (.iload_n 2, 1) := by decide +kernel
theorem dX9_leastPair_33 : decode cX9_leastPair 33 = .ok (.iload_n 3, 1) := by decide +kernel
theorem dX9_leastPair_34 : decode cX9_leastPair 34 = .ok (.iload 5, 2) := by decide +kernel
theorem dX9_leastPair_36 : decode cX9_leastPair 36 = .ok (.invokestatic 150, 3) := by decide +kernel
theorem dX9_leastPair_39 : decode cX9_leastPair 39 = .ok (.iaload, 1) := by decide +kernel
theorem dX9_leastPair_40 : decode cX9_leastPair 40 = .ok (.istore 6, 2) := by decide +kernel
theorem dX9_leastPair_42 : decode cX9_leastPair 42 = .ok (.iload 6, 2) := by decide +kernel
theorem dX9_leastPair_44 : decode cX9_leastPair 44 = .ok (.iload 4, 2) := by decide +kernel
theorem dX9_leastPair_46 : decode cX9_leastPair 46 = .ok (.if_icmp .ge 8, 3) := by decide +kernel
theorem dX9_leastPair_49 : decode cX9_leastPair 49 = .ok (.iload 6, 2) := by decide +kernel
theorem dX9_leastPair_51 : decode cX9_leastPair 51 = .ok (.goto 5, 3) := by decide +kernel
theorem dX9_leastPair_54 : decode cX9_leastPair 54 = .ok (.iload 4, 2) := by decide +kernel
theorem dX9_leastPair_56 : decode cX9_leastPair 56 = .ok (.istore 4, 2) := by decide +kernel
theorem dX9_leastPair_58 : decode cX9_leastPair 58 = .ok (.iinc 5 1, 3) := by decide +kernel
theorem dX9_leastPair_61 : decode cX9_leastPair 61 = .ok (.goto (-52), 3) := by decide +kernel
theorem dX9_leastPair_64 : decode cX9_leastPair 64 = .ok (.iload 4, 2) := by decide +kernel
theorem dX9_leastPair_66 : decode cX9_leastPair 66 = .ok (.ireturn, 1) := by decide +kernel
theorem dX9_projects_0 : decode cX9_projects 0 = .ok (.iconst 0, 1) := by decide +kernel
theorem dX9_projects_1 : decode cX9_projects 1 = .ok (.istore 5, 2) := by decide +kernel
theorem dX9_projects_3 : decode cX9_projects 3 = .ok (.iload 5, 2) := by decide +kernel
theorem dX9_projects_5 : decode cX9_projects 5 = .ok (.aload_n 0, 1) := by decide +kernel
theorem dX9_projects_6 : decode cX9_projects 6 = .ok (.getfield 13, 3) := by decide +kernel
theorem dX9_projects_9 : decode cX9_projects 9 = .ok (.aload_n 0, 1) := by decide +kernel
theorem dX9_projects_10 : decode cX9_projects 10 = .ok (.iload_n 1, 1) := by decide +kernel
theorem dX9_projects_11 : decode cX9_projects 11 = .ok (.iconst 1, 1) := by decide +kernel
theorem dX9_projects_12 : decode cX9_projects 12 = .ok (.iload_n 2, 1) := by decide +kernel
theorem dX9_projects_13 : decode cX9_projects 13 = .ok (.isub, 1) := by decide +kernel
theorem dX9_projects_14 : decode cX9_projects 14 = .ok (.invokevirtual 147, 3) := by decide +kernel
theorem dX9_projects_17 : decode cX9_projects 17 = .ok (.iaload, 1) := by decide +kernel
theorem dX9_projects_18 : decode cX9_projects 18 = .ok (.if_icmp .ge 39, 3) := by decide +kernel
theorem dX9_projects_21 : decode cX9_projects 21 = .ok (.iload_n 1, 1) := by decide +kernel
theorem dX9_projects_22 : decode cX9_projects 22 = .ok (.iload_n 2, 1) := by decide +kernel
theorem dX9_projects_23 : decode cX9_projects 23 = .ok (.iload_n 3, 1) := by decide +kernel
theorem dX9_projects_24 : decode cX9_projects 24 = .ok (.iload 5, 2) := by decide +kernel
theorem dX9_projects_26 : decode cX9_projects 26 = .ok (.invokestatic 150, 3) := by decide +kernel
theorem dX9_projects_29 : decode cX9_projects 29 = .ok (.istore 6, 2) := by decide +kernel
theorem dX9_projects_31 : decode cX9_projects 31 = .ok (.aload_n 0, 1) := by decide +kernel
theorem dX9_projects_32 : decode cX9_projects 32 = .ok (.getfield 25, 3) := by decide +kernel
theorem dX9_projects_35 : decode cX9_projects 35 = .ok (.iload 6, 2) := by decide +kernel
theorem dX9_projects_37 : decode cX9_projects 37 = .ok (.aload_n 0, 1) := by decide +kernel
theorem dX9_projects_38 : decode cX9_projects 38 = .ok (.aload_n 0, 1) := by decide +kernel
theorem dX9_projects_39 : decode cX9_projects 39 = .ok (.getfield 25, 3) := by decide +kernel
theorem dX9_projects_42 : decode cX9_projects 42 = .ok (.iload 6, 2) := by decide +kernel
theorem dX9_projects_44 : decode cX9_projects 44 = .ok (.iaload, 1) := by decide +kernel
theorem dX9_projects_45 : decode cX9_projects 45 = .ok (.iload 4, 2) := by decide +kernel
theorem dX9_projects_47 : decode cX9_projects 47 = .ok (.invokevirtual 157, 3) := by decide +kernel
theorem dX9_projects_50 : decode cX9_projects 50 = .ok (.iastore, 1) := by decide +kernel
theorem dX9_projects_51 : decode cX9_projects 51 = .ok (.iinc 5 1, 3) := by decide +kernel
theorem dX9_projects_54 : decode cX9_projects 54 = .ok (.goto (-51), 3) := by decide +kernel
theorem dX9_projects_57 : decode cX9_projects 57 = .ok (.iconst 4, 1) := by decide +kernel
theorem dX9_projects_58 : decode cX9_projects 58 = .ok (.aload_n 0, 1) := by decide +kernel
theorem dX9_projects_59 : decode cX9_projects 59 = .ok (.iload_n 1, 1) := by decide +kernel
theorem dX9_projects_60 : decode cX9_projects 60 = .ok (.iload_n 2, 1) := by decide +kernel
theorem dX9_projects_61 : decode cX9_projects 61 = .ok (.invokevirtual 147, 3) := by decide +kernel
theorem dX9_projects_64 : decode cX9_projects 64 = .ok (.imul, 1) := by decide +kernel
theorem dX9_projects_65 : decode cX9_projects 65 = .ok (.iload_n 3, 1) := by decide +kernel
theorem dX9_projects_66 : decode cX9_projects 66 = .ok (.iadd, 1) := by decide +kernel
theorem dX9_projects_67 : decode cX9_projects 67 = .ok (.istore 5, 2) := by decide +kernel
theorem dX9_projects_69 : decode cX9_projects 69 = .ok (.aload_n 0, 1) := by decide +kernel
theorem dX9_projects_70 : decode cX9_projects 70 = .ok (.getfield 25, 3) := by decide +kernel
theorem dX9_projects_73 : decode cX9_projects 73 = .ok (.iload 5, 2) := by decide +kernel
theorem dX9_projects_75 : decode cX9_projects 75 = .ok (.aload_n 0, 1) := by decide +kernel
theorem dX9_projects_76 : decode cX9_projects 76 = .ok (.aload_n 0, 1) := by decide +kernel
theorem dX9_projects_77 : decode cX9_projects 77 = .ok (.getfield 25, 3) := by decide +kernel
theorem dX9_projects_80 : decode cX9_projects 80 = .ok (.iload 5, 2) := by decide +kernel
theorem dX9_projects_82 : decode cX9_projects 82 = .ok (.iaload, 1) := by decide +kernel
theorem dX9_projects_83 : decode cX9_projects 83 = .ok (.iload 4, 2) := by decide +kernel
theorem dX9_projects_85 : decode cX9_projects 85 = .ok (.invokevirtual 125, 3) := by decide +kernel
theorem dX9_projects_88 : decode cX9_projects 88 = .ok (.iastore, 1) := by decide +kernel
theorem dX9_projects_89 : decode cX9_projects 89 = .ok (.return_, 1) := by decide +kernel
theorem dX9_extendsBy_0 : decode cX9_extendsBy 0 = .ok (.iconst 4, 1) := by decide +kernel
theorem dX9_extendsBy_1 : decode cX9_extendsBy 1 = .ok (.aload_n 0, 1) := by decide +kernel
theorem dX9_extendsBy_2 : decode cX9_extendsBy 2 = .ok (.iload_n 1, 1) := by decide +kernel
theorem dX9_extendsBy_3 : decode cX9_extendsBy 3 = .ok (.iload_n 2, 1) := by decide +kernel
theorem dX9_extendsBy_4 : decode cX9_extendsBy 4 = .ok (.invokevirtual 147, 3) := by decide +kernel
theorem dX9_extendsBy_7 : decode cX9_extendsBy 7 = .ok (.imul, 1) := by decide +kernel
theorem dX9_extendsBy_8 : decode cX9_extendsBy 8 = .ok (.iload_n 3, 1) := by decide +kernel
theorem dX9_extendsBy_9 : decode cX9_extendsBy 9 = .ok (.iadd, 1) := by decide +kernel
theorem dX9_extendsBy_10 : decode cX9_extendsBy 10 = .ok (.istore 5, 2) := by decide +kernel
theorem dX9_extendsBy_12 : decode cX9_extendsBy 12 = .ok (.aload_n 0, 1) := by decide +kernel
theorem dX9_extendsBy_13 : decode cX9_extendsBy 13 = .ok (.getfield 25, 3) := by decide +kernel
theorem dX9_extendsBy_16 : decode cX9_extendsBy 16 = .ok (.iload 5, 2) := by decide +kernel
theorem dX9_extendsBy_18 : decode cX9_extendsBy 18 = .ok (.aload_n 0, 1) := by decide +kernel
theorem dX9_extendsBy_19 : decode cX9_extendsBy 19 = .ok (.aload_n 0, 1) := by decide +kernel
theorem dX9_extendsBy_20 : decode cX9_extendsBy 20 = .ok (.getfield 25, 3) := by decide +kernel
theorem dX9_extendsBy_23 : decode cX9_extendsBy 23 = .ok (.iload 5, 2) := by decide +kernel
theorem dX9_extendsBy_25 : decode cX9_extendsBy 25 = .ok (.iaload, 1) := by decide +kernel
theorem dX9_extendsBy_26 : decode cX9_extendsBy 26 = .ok (.iload 4, 2) := by decide +kernel
theorem dX9_extendsBy_28 : decode cX9_extendsBy 28 = .ok (.invokevirtual 157, 3) := by decide +kernel
theorem dX9_extendsBy_31 : decode cX9_extendsBy 31 = .ok (.iastore, 1) := by decide +kernel
theorem dX9_extendsBy_32 : decode cX9_extendsBy 32 = .ok (.iconst 0, 1) := by decide +kernel
theorem dX9_extendsBy_33 : decode cX9_extendsBy 33 = .ok (.istore 6, 2) := by decide +kernel
theorem dX9_extendsBy_35 : decode cX9_extendsBy 35 = .ok (.iload 6, 2) := by decide +kernel
theorem dX9_extendsBy_37 : decode cX9_extendsBy 37 = .ok (.aload_n 0, 1) := by decide +kernel
theorem dX9_extendsBy_38 : decode cX9_extendsBy 38 = .ok (.getfield 13, 3) := by decide +kernel
theorem dX9_extendsBy_41 : decode cX9_extendsBy 41 = .ok (.aload_n 0, 1) := by decide +kernel
theorem dX9_extendsBy_42 : decode cX9_extendsBy 42 = .ok (.iload_n 1, 1) := by decide +kernel
theorem dX9_extendsBy_43 : decode cX9_extendsBy 43 = .ok (.iconst 1, 1) := by decide +kernel
theorem dX9_extendsBy_44 : decode cX9_extendsBy 44 = .ok (.iload_n 2, 1) := by decide +kernel
theorem dX9_extendsBy_45 : decode cX9_extendsBy 45 = .ok (.isub, 1) := by decide +kernel
theorem dX9_extendsBy_46 : decode cX9_extendsBy 46 = .ok (.invokevirtual 147, 3) := by decide +kernel
theorem dX9_extendsBy_49 : decode cX9_extendsBy 49 = .ok (.iaload, 1) := by decide +kernel
theorem dX9_extendsBy_50 : decode cX9_extendsBy 50 = .ok (.if_icmp .ge 39, 3) := by decide +kernel
theorem dX9_extendsBy_53 : decode cX9_extendsBy 53 = .ok (.iload_n 1, 1) := by decide +kernel
