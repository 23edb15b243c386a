/-! ===== printed: the law's decode rows ===== -/
theorem dL_part_0 : decode cL_part 0 = .ok (.iload_n 1, 1) := by decide +kernel
theorem dL_part_1 : decode cL_part 1 = .ok (.aload_n 0, 1) := by decide +kernel
theorem dL_part_2 : decode cL_part 2 = .ok (.arraylength, 1) := by decide +kernel
theorem dL_part_3 : decode cL_part 3 = .ok (.if_icmp .ge 9, 3) := by decide +kernel
theorem dL_part_6 : decode cL_part 6 = .ok (.aload_n 0, 1) := by decide +kernel
theorem dL_part_7 : decode cL_part 7 = .ok (.iload_n 1, 1) := by decide +kernel
theorem dL_part_8 : decode cL_part 8 = .ok (.iaload, 1) := by decide +kernel
theorem dL_part_9 : decode cL_part 9 = .ok (.goto 16, 3) := by decide +kernel
theorem dL_part_12 : decode cL_part 12 = .ok (.sipush 397, 3) := by decide +kernel
theorem dL_part_15 : decode cL_part 15 = .ok (.iload_n 1, 1) := by decide +kernel
theorem dL_part_16 : decode cL_part 16 = .ok (.imul, 1) := by decide +kernel
theorem dL_part_17 : decode cL_part 17 = .ok (.sipush 263, 3) := by decide +kernel
theorem dL_part_20 : decode cL_part 20 = .ok (.iload_n 1, 1) := by decide +kernel
theorem dL_part_21 : decode cL_part 21 = .ok (.imul, 1) := by decide +kernel
theorem dL_part_22 : decode cL_part 22 = .ok (.iload_n 1, 1) := by decide +kernel
theorem dL_part_23 : decode cL_part 23 = .ok (.imul, 1) := by decide +kernel
theorem dL_part_24 : decode cL_part 24 = .ok (.iadd, 1) := by decide +kernel
theorem dL_part_25 : decode cL_part 25 = .ok (.istore_n 3, 1) := by decide +kernel
theorem dL_part_26 : decode cL_part 26 = .ok (.iload_n 3, 1) := by decide +kernel
theorem dL_part_27 : decode cL_part 27 = .ok (.ldc 7, 2) := by decide +kernel
theorem dL_part_29 : decode cL_part 29 = .ok (.iand, 1) := by decide +kernel
theorem dL_part_30 : decode cL_part 30 = .ok (.iload_n 2, 1) := by decide +kernel
theorem dL_part_31 : decode cL_part 31 = .ok (.irem, 1) := by decide +kernel
theorem dL_part_32 : decode cL_part 32 = .ok (.ireturn, 1) := by decide +kernel
theorem dL_told_0 : decode cL_told 0 = .ok (.iload_n 1, 1) := by decide +kernel
theorem dL_told_1 : decode cL_told 1 = .ok (.ifCond .ne 12, 3) := by decide +kernel
theorem dL_told_4 : decode cL_told 4 = .ok (.aload_n 0, 1) := by decide +kernel
theorem dL_told_5 : decode cL_told 5 = .ok (.iload_n 2, 1) := by decide +kernel
theorem dL_told_6 : decode cL_told 6 = .ok (.iload_n 3, 1) := by decide +kernel
theorem dL_told_7 : decode cL_told 7 = .ok (.invokevirtual 8, 3) := by decide +kernel
theorem dL_told_10 : decode cL_told 10 = .ok (.goto 22, 3) := by decide +kernel
theorem dL_told_13 : decode cL_told 13 = .ok (.aload_n 0, 1) := by decide +kernel
theorem dL_told_14 : decode cL_told 14 = .ok (.iload_n 2, 1) := by decide +kernel
theorem dL_told_15 : decode cL_told 15 = .ok (.iload_n 3, 1) := by decide +kernel
theorem dL_told_16 : decode cL_told 16 = .ok (.iload 4, 2) := by decide +kernel
theorem dL_told_18 : decode cL_told 18 = .ok (.iload 5, 2) := by decide +kernel
theorem dL_told_20 : decode cL_told 20 = .ok (.iconst 1, 1) := by decide +kernel
theorem dL_told_21 : decode cL_told 21 = .ok (.if_icmp .ne 7, 3) := by decide +kernel
theorem dL_told_24 : decode cL_told 24 = .ok (.iconst 1, 1) := by decide +kernel
theorem dL_told_25 : decode cL_told 25 = .ok (.goto 4, 3) := by decide +kernel
theorem dL_told_28 : decode cL_told 28 = .ok (.iconst 0, 1) := by decide +kernel
theorem dL_told_29 : decode cL_told 29 = .ok (.invokevirtual 14, 3) := by decide +kernel
theorem dL_told_32 : decode cL_told 32 = .ok (.iconst 0, 1) := by decide +kernel
theorem dL_told_33 : decode cL_told 33 = .ok (.ireturn, 1) := by decide +kernel
theorem dL_does_0 : decode cL_does 0 = .ok (.iload_n 1, 1) := by decide +kernel
theorem dL_does_1 : decode cL_does 1 = .ok (.iconst 2, 1) := by decide +kernel
theorem dL_does_2 : decode cL_does 2 = .ok (.if_icmp .ge 17, 3) := by decide +kernel
theorem dL_does_5 : decode cL_does 5 = .ok (.aload_n 0, 1) := by decide +kernel
theorem dL_does_6 : decode cL_does 6 = .ok (.iload_n 1, 1) := by decide +kernel
theorem dL_does_7 : decode cL_does 7 = .ok (.iload_n 2, 1) := by decide +kernel
theorem dL_does_8 : decode cL_does 8 = .ok (.iload_n 3, 1) := by decide +kernel
theorem dL_does_9 : decode cL_does 9 = .ok (.iload 4, 2) := by decide +kernel
theorem dL_does_11 : decode cL_does 11 = .ok (.iload 5, 2) := by decide +kernel
theorem dL_does_13 : decode cL_does 13 = .ok (.invokestatic 18, 3) := by decide +kernel
theorem dL_does_16 : decode cL_does 16 = .ok (.goto 225, 3) := by decide +kernel
theorem dL_does_19 : decode cL_does 19 = .ok (.iload_n 1, 1) := by decide +kernel
theorem dL_does_20 : decode cL_does 20 = .ok (.iconst 2, 1) := by decide +kernel
theorem dL_does_21 : decode cL_does 21 = .ok (.if_icmp .ne 12, 3) := by decide +kernel
theorem dL_does_24 : decode cL_does 24 = .ok (.aload_n 0, 1) := by decide +kernel
theorem dL_does_25 : decode cL_does 25 = .ok (.iload_n 2, 1) := by decide +kernel
theorem dL_does_26 : decode cL_does 26 = .ok (.iload_n 3, 1) := by decide +kernel
theorem dL_does_27 : decode cL_does 27 = .ok (.invokevirtual 24, 3) := by decide +kernel
theorem dL_does_30 : decode cL_does 30 = .ok (.goto 211, 3) := by decide +kernel
theorem dL_does_33 : decode cL_does 33 = .ok (.iload_n 1, 1) := by decide +kernel
theorem dL_does_34 : decode cL_does 34 = .ok (.iconst 3, 1) := by decide +kernel
theorem dL_does_35 : decode cL_does 35 = .ok (.if_icmp .ne 11, 3) := by decide +kernel
theorem dL_does_38 : decode cL_does 38 = .ok (.aload_n 0, 1) := by decide +kernel
theorem dL_does_39 : decode cL_does 39 = .ok (.iload_n 2, 1) := by decide +kernel
theorem dL_does_40 : decode cL_does 40 = .ok (.invokevirtual 28, 3) := by decide +kernel
theorem dL_does_43 : decode cL_does 43 = .ok (.goto 198, 3) := by decide +kernel
theorem dL_does_46 : decode cL_does 46 = .ok (.iload_n 1, 1) := by decide +kernel
theorem dL_does_47 : decode cL_does 47 = .ok (.iconst 4, 1) := by decide +kernel
theorem dL_does_48 : decode cL_does 48 = .ok (.if_icmp .ne 12, 3) := by decide +kernel
theorem dL_does_51 : decode cL_does 51 = .ok (.aload_n 0, 1) := by decide +kernel
theorem dL_does_52 : decode cL_does 52 = .ok (.iload_n 2, 1) := by decide +kernel
theorem dL_does_53 : decode cL_does 53 = .ok (.iload_n 3, 1) := by decide +kernel
theorem dL_does_54 : decode cL_does 54 = .ok (.invokevirtual 32, 3) := by decide +kernel
theorem dL_does_57 : decode cL_does 57 = .ok (.goto 184, 3) := by decide +kernel
theorem dL_does_60 : decode cL_does 60 = .ok (.iload_n 1, 1) := by decide +kernel
theorem dL_does_61 : decode cL_does 61 = .ok (.iconst 5, 1) := by decide +kernel
theorem dL_does_62 : decode cL_does 62 = .ok (.if_icmp .ne 23, 3) := by decide +kernel
theorem dL_does_65 : decode cL_does 65 = .ok (.aload_n 0, 1) := by decide +kernel
theorem dL_does_66 : decode cL_does 66 = .ok (.iload_n 2, 1) := by decide +kernel
theorem dL_does_67 : decode cL_does 67 = .ok (.iload_n 3, 1) := by decide +kernel
theorem dL_does_68 : decode cL_does 68 = .ok (.iload 4, 2) := by decide +kernel
theorem dL_does_70 : decode cL_does 70 = .ok (.iconst 1, 1) := by decide +kernel
theorem dL_does_71 : decode cL_does 71 = .ok (.if_icmp .ne 7, 3) := by decide +kernel
theorem dL_does_74 : decode cL_does 74 = .ok (.iconst 1, 1) := by decide +kernel
theorem dL_does_75 : decode cL_does 75 = .ok (.goto 4, 3) := by decide +kernel
theorem dL_does_78 : decode cL_does 78 = .ok (.iconst 0, 1) := by decide +kernel
theorem dL_does_79 : decode cL_does 79 = .ok (.invokevirtual 35, 3) := by decide +kernel
theorem dL_does_82 : decode cL_does 82 = .ok (.goto 159, 3) := by decide +kernel
theorem dL_does_85 : decode cL_does 85 = .ok (.iload_n 1, 1) := by decide +kernel
theorem dL_does_86 : decode cL_does 86 = .ok (.bipush 6, 2) := by decide +kernel
theorem dL_does_88 : decode cL_does 88 = .ok (.if_icmp .ne 11, 3) := by decide +kernel
theorem dL_does_91 : decode cL_does 91 = .ok (.aload_n 0, 1) := by decide +kernel
theorem dL_does_92 : decode cL_does 92 = .ok (.iload_n 2, 1) := by decide +kernel
theorem dL_does_93 : decode cL_does 93 = .ok (.invokevirtual 39, 3) := by decide +kernel
theorem dL_does_96 : decode cL_does 96 = .ok (.goto 145, 3) := by decide +kernel
theorem dL_does_99 : decode cL_does 99 = .ok (.iload_n 1, 1) := by decide +kernel
theorem dL_does_100 : decode cL_does 100 = .ok (.bipush 7, 2) := by decide +kernel
theorem dL_does_102 : decode cL_does 102 = .ok (.if_icmp .ne 11, 3) := by decide +kernel
theorem dL_does_105 : decode cL_does 105 = .ok (.aload_n 0, 1) := by decide +kernel
theorem dL_does_106 : decode cL_does 106 = .ok (.iload_n 2, 1) := by decide +kernel
theorem dL_does_107 : decode cL_does 107 = .ok (.invokevirtual 42, 3) := by decide +kernel
theorem dL_does_110 : decode cL_does 110 = .ok (.goto 131, 3) := by decide +kernel
theorem dL_does_113 : decode cL_does 113 = .ok (.iload_n 1, 1) := by decide +kernel
theorem dL_does_114 : decode cL_does 114 = .ok (.bipush 8, 2) := by decide +kernel
theorem dL_does_116 : decode cL_does 116 = .ok (.if_icmp .ne 31, 3) := by decide +kernel
theorem dL_does_119 : decode cL_does 119 = .ok (.aload_n 0, 1) := by decide +kernel
theorem dL_does_120 : decode cL_does 120 = .ok (.iload_n 2, 1) := by decide +kernel
theorem dL_does_121 : decode cL_does 121 = .ok (.iload_n 3, 1) := by decide +kernel
theorem dL_does_122 : decode cL_does 122 = .ok (.iload 4, 2) := by decide +kernel
theorem dL_does_124 : decode cL_does 124 = .ok (.iload 5, 2) := by decide +kernel
theorem dL_does_126 : decode cL_does 126 = .ok (.iload 5, 2) := by decide +kernel
theorem dL_does_128 : decode cL_does 128 = .ok (.sipush 1000, 3) := by decide +kernel
theorem dL_does_131 : decode cL_does 131 = .ok (.irem, 1) := by decide +kernel
theorem dL_does_132 : decode cL_does 132 = .ok (.iconst (-1), 1) := by decide +kernel
theorem dL_does_133 : decode cL_does 133 = .ok (.invokevirtual 45, 3) := by decide +kernel
theorem dL_does_136 : decode cL_does 136 = .ok (.ifCond .eq 7, 3) := by decide +kernel
theorem dL_does_139 : decode cL_does 139 = .ok (.iconst 1, 1) := by decide +kernel
theorem dL_does_140 : decode cL_does 140 = .ok (.goto 101, 3) := by decide +kernel
theorem dL_does_143 : decode cL_does 143 = .ok (.iconst 0, 1) := by decide +kernel
theorem dL_does_144 : decode cL_does 144 = .ok (.goto 97, 3) := by decide +kernel
theorem dL_does_147 : decode cL_does 147 = .ok (.iload_n 1, 1) := by decide +kernel
theorem dL_does_148 : decode cL_does 148 = .ok (.bipush 9, 2) := by decide +kernel
theorem dL_does_150 : decode cL_does 150 = .ok (.if_icmp .ne 16, 3) := by decide +kernel
theorem dL_does_153 : decode cL_does 153 = .ok (.aload_n 0, 1) := by decide +kernel
theorem dL_does_154 : decode cL_does 154 = .ok (.iload_n 2, 1) := by decide +kernel
theorem dL_does_155 : decode cL_does 155 = .ok (.iload_n 3, 1) := by decide +kernel
theorem dL_does_156 : decode cL_does 156 = .ok (.iload 4, 2) := by decide +kernel
theorem dL_does_158 : decode cL_does 158 = .ok (.iload 5, 2) := by decide +kernel
theorem dL_does_160 : decode cL_does 160 = .ok (.invokevirtual 49, 3) := by decide +kernel
theorem dL_does_163 : decode cL_does 163 = .ok (.goto 78, 3) := by decide +kernel
theorem dL_does_166 : decode cL_does 166 = .ok (.iload_n 1, 1) := by decide +kernel
theorem dL_does_167 : decode cL_does 167 = .ok (.bipush 10, 2) := by decide +kernel
theorem dL_does_169 : decode cL_does 169 = .ok (.if_icmp .ne 14, 3) := by decide +kernel
theorem dL_does_172 : decode cL_does 172 = .ok (.aload_n 0, 1) := by decide +kernel
theorem dL_does_173 : decode cL_does 173 = .ok (.iload_n 2, 1) := by decide +kernel
theorem dL_does_174 : decode cL_does 174 = .ok (.iload_n 3, 1) := by decide +kernel
theorem dL_does_175 : decode cL_does 175 = .ok (.iload 4, 2) := by decide +kernel
theorem dL_does_177 : decode cL_does 177 = .ok (.invokevirtual 53, 3) := by decide +kernel
theorem dL_does_180 : decode cL_does 180 = .ok (.goto 61, 3) := by decide +kernel
theorem dL_does_183 : decode cL_does 183 = .ok (.iload_n 1, 1) := by decide +kernel
theorem dL_does_184 : decode cL_does 184 = .ok (.bipush 11, 2) := by decide +kernel
theorem dL_does_186 : decode cL_does 186 = .ok (.if_icmp .ne 16, 3) := by decide +kernel
theorem dL_does_189 : decode cL_does 189 = .ok (.aload_n 0, 1) := by decide +kernel
theorem dL_does_190 : decode cL_does 190 = .ok (.iload_n 2, 1) := by decide +kernel
theorem dL_does_191 : decode cL_does 191 = .ok (.iload_n 3, 1) := by decide +kernel
theorem dL_does_192 : decode cL_does 192 = .ok (.iload 4, 2) := by decide +kernel
theorem dL_does_194 : decode cL_does 194 = .ok (.iload 5, 2) := by decide +kernel
theorem dL_does_196 : decode cL_does 196 = .ok (.invokevirtual 57, 3) := by decide +kernel
theorem dL_does_199 : decode cL_does 199 = .ok (.goto 42, 3) := by decide +kernel
theorem dL_does_202 : decode cL_does 202 = .ok (.iload_n 1, 1) := by decide +kernel
theorem dL_does_203 : decode cL_does 203 = .ok (.bipush 12, 2) := by decide +kernel
theorem dL_does_205 : decode cL_does 205 = .ok (.if_icmp .ne 16, 3) := by decide +kernel
theorem dL_does_208 : decode cL_does 208 = .ok (.aload_n 0, 1) := by decide +kernel
theorem dL_does_209 : decode cL_does 209 = .ok (.iload_n 2, 1) := by decide +kernel
theorem dL_does_210 : decode cL_does 210 = .ok (.iload_n 3, 1) := by decide +kernel
theorem dL_does_211 : decode cL_does 211 = .ok (.iload 4, 2) := by decide +kernel
theorem dL_does_213 : decode cL_does 213 = .ok (.iload 5, 2) := by decide +kernel
theorem dL_does_215 : decode cL_does 215 = .ok (.invokevirtual 60, 3) := by decide +kernel
theorem dL_does_218 : decode cL_does 218 = .ok (.goto 23, 3) := by decide +kernel
theorem dL_does_221 : decode cL_does 221 = .ok (.iload_n 1, 1) := by decide +kernel
theorem dL_does_222 : decode cL_does 222 = .ok (.bipush 13, 2) := by decide +kernel
theorem dL_does_224 : decode cL_does 224 = .ok (.if_icmp .ne 11, 3) := by decide +kernel
theorem dL_does_227 : decode cL_does 227 = .ok (.aload_n 0, 1) := by decide +kernel
theorem dL_does_228 : decode cL_does 228 = .ok (.iload_n 2, 1) := by decide +kernel
theorem dL_does_229 : decode cL_does 229 = .ok (.invokevirtual 63, 3) := by decide +kernel
theorem dL_does_232 : decode cL_does 232 = .ok (.goto 9, 3) := by decide +kernel
theorem dL_does_235 : decode cL_does 235 = .ok (.aload_n 0, 1) := by decide +kernel
theorem dL_does_236 : decode cL_does 236 = .ok (.iload_n 2, 1) := by decide +kernel
theorem dL_does_237 : decode cL_does 237 = .ok (.iload_n 3, 1) := by decide +kernel
theorem dL_does_238 : decode cL_does 238 = .ok (.invokevirtual 66, 3) := by decide +kernel
theorem dL_does_241 : decode cL_does 241 = .ok (.ireturn, 1) := by decide +kernel
theorem dL_does_242 : decode cL_does 242 = .ok (.astore 6, 2) := by decide +kernel
theorem dL_does_244 : decode cL_does 244 = .ok (.bipush (-30), 2) := by decide +kernel
theorem dL_does_246 : decode cL_does 246 = .ok (.ireturn, 1) := by decide +kernel
theorem dL_does_247 : decode cL_does 247 = .ok (.astore 6, 2) := by decide +kernel
theorem dL_does_249 : decode cL_does 249 = .ok (.bipush (-20), 2) := by decide +kernel
theorem dL_does_251 : decode cL_does 251 = .ok (.ireturn, 1) := by decide +kernel
theorem dL_does_252 : decode cL_does 252 = .ok (.astore 6, 2) := by decide +kernel
theorem dL_does_254 : decode cL_does 254 = .ok (.bipush (-10), 2) := by decide +kernel
theorem dL_does_256 : decode cL_does 256 = .ok (.ireturn, 1) := by decide +kernel
theorem dL_asks_0 : decode cL_asks 0 = .ok (.iload_n 1, 1) := by decide +kernel
theorem dL_asks_1 : decode cL_asks 1 = .ok (.ifCond .ne 11, 3) := by decide +kernel
theorem dL_asks_4 : decode cL_asks 4 = .ok (.aload_n 0, 1) := by decide +kernel
theorem dL_asks_5 : decode cL_asks 5 = .ok (.iload_n 2, 1) := by decide +kernel
theorem dL_asks_6 : decode cL_asks 6 = .ok (.invokevirtual 75, 3) := by decide +kernel
theorem dL_asks_9 : decode cL_asks 9 = .ok (.goto 8, 3) := by decide +kernel
theorem dL_asks_12 : decode cL_asks 12 = .ok (.aload_n 0, 1) := by decide +kernel
theorem dL_asks_13 : decode cL_asks 13 = .ok (.iload_n 2, 1) := by decide +kernel
theorem dL_asks_14 : decode cL_asks 14 = .ok (.invokevirtual 78, 3) := by decide +kernel
theorem dL_asks_17 : decode cL_asks 17 = .ok (.ireturn, 1) := by decide +kernel
theorem dL_asks_18 : decode cL_asks 18 = .ok (.astore_n 3, 1) := by decide +kernel
theorem dL_asks_19 : decode cL_asks 19 = .ok (.bipush (-30), 2) := by decide +kernel
theorem dL_asks_21 : decode cL_asks 21 = .ok (.ireturn, 1) := by decide +kernel
theorem dL_isAlive_0 : decode cL_isAlive 0 = .ok (.aload_n 0, 1) := by decide +kernel
theorem dL_isAlive_1 : decode cL_isAlive 1 = .ok (.iload_n 1, 1) := by decide +kernel
theorem dL_isAlive_2 : decode cL_isAlive 2 = .ok (.iaload, 1) := by decide +kernel
theorem dL_isAlive_3 : decode cL_isAlive 3 = .ok (.ifCond .eq 10, 3) := by decide +kernel
theorem dL_isAlive_6 : decode cL_isAlive 6 = .ok (.aload_n 0, 1) := by decide +kernel
theorem dL_isAlive_7 : decode cL_isAlive 7 = .ok (.iload_n 1, 1) := by decide +kernel
theorem dL_isAlive_8 : decode cL_isAlive 8 = .ok (.iaload, 1) := by decide +kernel
theorem dL_isAlive_9 : decode cL_isAlive 9 = .ok (.iconst 1, 1) := by decide +kernel
theorem dL_isAlive_10 : decode cL_isAlive 10 = .ok (.if_icmp .ne 7, 3) := by decide +kernel
theorem dL_isAlive_13 : decode cL_isAlive 13 = .ok (.iconst 1, 1) := by decide +kernel
theorem dL_isAlive_14 : decode cL_isAlive 14 = .ok (.goto 4, 3) := by decide +kernel
theorem dL_isAlive_17 : decode cL_isAlive 17 = .ok (.iconst 0, 1) := by decide +kernel
theorem dL_isAlive_18 : decode cL_isAlive 18 = .ok (.ireturn, 1) := by decide +kernel
theorem dL_goesOn_0 : decode cL_goesOn 0 = .ok (.iconst 0, 1) := by decide +kernel
theorem dL_goesOn_1 : decode cL_goesOn 1 = .ok (.istore_n 3, 1) := by decide +kernel
theorem dL_goesOn_2 : decode cL_goesOn 2 = .ok (.iconst 0, 1) := by decide +kernel
theorem dL_goesOn_3 : decode cL_goesOn 3 = .ok (.istore 4, 2) := by decide +kernel
theorem dL_goesOn_5 : decode cL_goesOn 5 = .ok (.iload 4, 2) := by decide +kernel
theorem dL_goesOn_7 : decode cL_goesOn 7 = .ok (.aload_n 2, 1) := by decide +kernel
theorem dL_goesOn_8 : decode cL_goesOn 8 = .ok (.bipush 14, 2) := by decide +kernel
theorem dL_goesOn_10 : decode cL_goesOn 10 = .ok (.iaload, 1) := by decide +kernel
theorem dL_goesOn_11 : decode cL_goesOn 11 = .ok (.if_icmp .ge 99, 3) := by decide +kernel
theorem dL_goesOn_14 : decode cL_goesOn 14 = .ok (.iconst 0, 1) := by decide +kernel
theorem dL_goesOn_15 : decode cL_goesOn 15 = .ok (.istore 5, 2) := by decide +kernel
theorem dL_goesOn_17 : decode cL_goesOn 17 = .ok (.iconst 0, 1) := by decide +kernel
theorem dL_goesOn_18 : decode cL_goesOn 18 = .ok (.istore 6, 2) := by decide +kernel
theorem dL_goesOn_20 : decode cL_goesOn 20 = .ok (.iload 6, 2) := by decide +kernel
theorem dL_goesOn_22 : decode cL_goesOn 22 = .ok (.iload 4, 2) := by decide +kernel
theorem dL_goesOn_24 : decode cL_goesOn 24 = .ok (.if_icmp .ge 60, 3) := by decide +kernel
theorem dL_goesOn_27 : decode cL_goesOn 27 = .ok (.iload 5, 2) := by decide +kernel
theorem dL_goesOn_29 : decode cL_goesOn 29 = .ok (.ifCond .ne 42, 3) := by decide +kernel
theorem dL_goesOn_32 : decode cL_goesOn 32 = .ok (.aload_n 0, 1) := by decide +kernel
theorem dL_goesOn_33 : decode cL_goesOn 33 = .ok (.iload 6, 2) := by decide +kernel
theorem dL_goesOn_35 : decode cL_goesOn 35 = .ok (.invokestatic 81, 3) := by decide +kernel
theorem dL_goesOn_38 : decode cL_goesOn 38 = .ok (.ifCond .eq 37, 3) := by decide +kernel
theorem dL_goesOn_41 : decode cL_goesOn 41 = .ok (.aload_n 1, 1) := by decide +kernel
theorem dL_goesOn_42 : decode cL_goesOn 42 = .ok (.iload 6, 2) := by decide +kernel
theorem dL_goesOn_44 : decode cL_goesOn 44 = .ok (.iaload, 1) := by decide +kernel
theorem dL_goesOn_45 : decode cL_goesOn 45 = .ok (.aload_n 1, 1) := by decide +kernel
theorem dL_goesOn_46 : decode cL_goesOn 46 = .ok (.iload 4, 2) := by decide +kernel
theorem dL_goesOn_48 : decode cL_goesOn 48 = .ok (.iaload, 1) := by decide +kernel
theorem dL_goesOn_49 : decode cL_goesOn 49 = .ok (.iand, 1) := by decide +kernel
theorem dL_goesOn_50 : decode cL_goesOn 50 = .ok (.bipush 7, 2) := by decide +kernel
theorem dL_goesOn_52 : decode cL_goesOn 52 = .ok (.iand, 1) := by decide +kernel
theorem dL_goesOn_53 : decode cL_goesOn 53 = .ok (.ifCond .eq 22, 3) := by decide +kernel
theorem dL_goesOn_56 : decode cL_goesOn 56 = .ok (.aload_n 1, 1) := by decide +kernel
theorem dL_goesOn_57 : decode cL_goesOn 57 = .ok (.iload 6, 2) := by decide +kernel
theorem dL_goesOn_59 : decode cL_goesOn 59 = .ok (.iaload, 1) := by decide +kernel
theorem dL_goesOn_60 : decode cL_goesOn 60 = .ok (.aload_n 1, 1) := by decide +kernel
theorem dL_goesOn_61 : decode cL_goesOn 61 = .ok (.iload 4, 2) := by decide +kernel
theorem dL_goesOn_63 : decode cL_goesOn 63 = .ok (.iaload, 1) := by decide +kernel
theorem dL_goesOn_64 : decode cL_goesOn 64 = .ok (.ior, 1) := by decide +kernel
theorem dL_goesOn_65 : decode cL_goesOn 65 = .ok (.bipush 8, 2) := by decide +kernel
theorem dL_goesOn_67 : decode cL_goesOn 67 = .ok (.iand, 1) := by decide +kernel
theorem dL_goesOn_68 : decode cL_goesOn 68 = .ok (.ifCond .eq 7, 3) := by decide +kernel
theorem dL_goesOn_71 : decode cL_goesOn 71 = .ok (.iconst 1, 1) := by decide +kernel
theorem dL_goesOn_72 : decode cL_goesOn 72 = .ok (.goto 4, 3) := by decide +kernel
theorem dL_goesOn_75 : decode cL_goesOn 75 = .ok (.iconst 0, 1) := by decide +kernel
theorem dL_goesOn_76 : decode cL_goesOn 76 = .ok (.istore 5, 2) := by decide +kernel
theorem dL_goesOn_78 : decode cL_goesOn 78 = .ok (.iinc 6 1, 3) := by decide +kernel
theorem dL_goesOn_81 : decode cL_goesOn 81 = .ok (.goto (-61), 3) := by decide +kernel
theorem dL_goesOn_84 : decode cL_goesOn 84 = .ok (.aload_n 0, 1) := by decide +kernel
theorem dL_goesOn_85 : decode cL_goesOn 85 = .ok (.iload 4, 2) := by decide +kernel
theorem dL_goesOn_87 : decode cL_goesOn 87 = .ok (.iaload, 1) := by decide +kernel
theorem dL_goesOn_88 : decode cL_goesOn 88 = .ok (.ifCond .ne 16, 3) := by decide +kernel
theorem dL_goesOn_91 : decode cL_goesOn 91 = .ok (.iload 5, 2) := by decide +kernel
theorem dL_goesOn_93 : decode cL_goesOn 93 = .ok (.ifCond .ne 11, 3) := by decide +kernel
theorem dL_goesOn_96 : decode cL_goesOn 96 = .ok (.aload_n 0, 1) := by decide +kernel
theorem dL_goesOn_97 : decode cL_goesOn 97 = .ok (.iload 4, 2) := by decide +kernel
theorem dL_goesOn_99 : decode cL_goesOn 99 = .ok (.iconst 1, 1) := by decide +kernel
theorem dL_goesOn_100 : decode cL_goesOn 100 = .ok (.iastore, 1) := by decide +kernel
theorem dL_goesOn_101 : decode cL_goesOn 101 = .ok (.iinc 3 1, 3) := by decide +kernel
theorem dL_goesOn_104 : decode cL_goesOn 104 = .ok (.iinc 4 1, 3) := by decide +kernel
theorem dL_goesOn_107 : decode cL_goesOn 107 = .ok (.goto (-102), 3) := by decide +kernel
theorem dL_goesOn_110 : decode cL_goesOn 110 = .ok (.iload_n 3, 1) := by decide +kernel
theorem dL_goesOn_111 : decode cL_goesOn 111 = .ok (.ireturn, 1) := by decide +kernel
theorem dL_isBusy_0 : decode cL_isBusy 0 = .ok (.iconst 0, 1) := by decide +kernel
theorem dL_isBusy_1 : decode cL_isBusy 1 = .ok (.istore_n 2, 1) := by decide +kernel
theorem dL_isBusy_2 : decode cL_isBusy 2 = .ok (.iconst 0, 1) := by decide +kernel
theorem dL_isBusy_3 : decode cL_isBusy 3 = .ok (.istore_n 3, 1) := by decide +kernel
theorem dL_isBusy_4 : decode cL_isBusy 4 = .ok (.iload_n 3, 1) := by decide +kernel
theorem dL_isBusy_5 : decode cL_isBusy 5 = .ok (.iconst 4, 1) := by decide +kernel
theorem dL_isBusy_6 : decode cL_isBusy 6 = .ok (.if_icmp .ge 42, 3) := by decide +kernel
theorem dL_isBusy_9 : decode cL_isBusy 9 = .ok (.iload_n 2, 1) := by decide +kernel
theorem dL_isBusy_10 : decode cL_isBusy 10 = .ok (.ifCond .ne 26, 3) := by decide +kernel
theorem dL_isBusy_13 : decode cL_isBusy 13 = .ok (.iload_n 3, 1) := by decide +kernel
theorem dL_isBusy_14 : decode cL_isBusy 14 = .ok (.iload_n 1, 1) := by decide +kernel
theorem dL_isBusy_15 : decode cL_isBusy 15 = .ok (.if_icmp .eq 25, 3) := by decide +kernel
theorem dL_isBusy_18 : decode cL_isBusy 18 = .ok (.aload_n 0, 1) := by decide +kernel
theorem dL_isBusy_19 : decode cL_isBusy 19 = .ok (.iconst 3, 1) := by decide +kernel
theorem dL_isBusy_20 : decode cL_isBusy 20 = .ok (.iload_n 3, 1) := by decide +kernel
theorem dL_isBusy_21 : decode cL_isBusy 21 = .ok (.imul, 1) := by decide +kernel
theorem dL_isBusy_22 : decode cL_isBusy 22 = .ok (.iaload, 1) := by decide +kernel
theorem dL_isBusy_23 : decode cL_isBusy 23 = .ok (.iconst 1, 1) := by decide +kernel
theorem dL_isBusy_24 : decode cL_isBusy 24 = .ok (.if_icmp .eq 12, 3) := by decide +kernel
theorem dL_isBusy_27 : decode cL_isBusy 27 = .ok (.aload_n 0, 1) := by decide +kernel
theorem dL_isBusy_28 : decode cL_isBusy 28 = .ok (.iconst 3, 1) := by decide +kernel
theorem dL_isBusy_29 : decode cL_isBusy 29 = .ok (.iload_n 3, 1) := by decide +kernel
theorem dL_isBusy_30 : decode cL_isBusy 30 = .ok (.imul, 1) := by decide +kernel
theorem dL_isBusy_31 : decode cL_isBusy 31 = .ok (.iaload, 1) := by decide +kernel
theorem dL_isBusy_32 : decode cL_isBusy 32 = .ok (.iconst 2, 1) := by decide +kernel
theorem dL_isBusy_33 : decode cL_isBusy 33 = .ok (.if_icmp .ne 7, 3) := by decide +kernel
theorem dL_isBusy_36 : decode cL_isBusy 36 = .ok (.iconst 1, 1) := by decide +kernel
theorem dL_isBusy_37 : decode cL_isBusy 37 = .ok (.goto 4, 3) := by decide +kernel
theorem dL_isBusy_40 : decode cL_isBusy 40 = .ok (.iconst 0, 1) := by decide +kernel
theorem dL_isBusy_41 : decode cL_isBusy 41 = .ok (.istore_n 2, 1) := by decide +kernel
theorem dL_isBusy_42 : decode cL_isBusy 42 = .ok (.iinc 3 1, 3) := by decide +kernel
theorem dL_isBusy_45 : decode cL_isBusy 45 = .ok (.goto (-41), 3) := by decide +kernel
theorem dL_isBusy_48 : decode cL_isBusy 48 = .ok (.iload_n 2, 1) := by decide +kernel
theorem dL_isBusy_49 : decode cL_isBusy 49 = .ok (.ireturn, 1) := by decide +kernel
theorem dL_looks_0 : decode cL_looks 0 = .ok (.iconst 1, 1) := by decide +kernel
theorem dL_looks_1 : decode cL_looks 1 = .ok (.istore 4, 2) := by decide +kernel
theorem dL_looks_3 : decode cL_looks 3 = .ok (.iload 4, 2) := by decide +kernel
theorem dL_looks_5 : decode cL_looks 5 = .ok (.ifCond .eq 191, 3) := by decide +kernel
theorem dL_looks_8 : decode cL_looks 8 = .ok (.aload_n 2, 1) := by decide +kernel
theorem dL_looks_9 : decode cL_looks 9 = .ok (.iconst (-1), 1) := by decide +kernel
theorem dL_looks_10 : decode cL_looks 10 = .ok (.invokestatic 85, 3) := by decide +kernel
theorem dL_looks_13 : decode cL_looks 13 = .ok (.ifCond .ne 183, 3) := by decide +kernel
theorem dL_looks_16 : decode cL_looks 16 = .ok (.iconst (-1), 1) := by decide +kernel
theorem dL_looks_17 : decode cL_looks 17 = .ok (.istore 5, 2) := by decide +kernel
theorem dL_looks_19 : decode cL_looks 19 = .ok (.iconst 0, 1) := by decide +kernel
theorem dL_looks_20 : decode cL_looks 20 = .ok (.istore 6, 2) := by decide +kernel
theorem dL_looks_22 : decode cL_looks 22 = .ok (.iload 6, 2) := by decide +kernel
theorem dL_looks_24 : decode cL_looks 24 = .ok (.iconst 4, 1) := by decide +kernel
theorem dL_looks_25 : decode cL_looks 25 = .ok (.if_icmp .ge 52, 3) := by decide +kernel
theorem dL_looks_28 : decode cL_looks 28 = .ok (.aload_n 2, 1) := by decide +kernel
theorem dL_looks_29 : decode cL_looks 29 = .ok (.iconst 3, 1) := by decide +kernel
theorem dL_looks_30 : decode cL_looks 30 = .ok (.iload 6, 2) := by decide +kernel
theorem dL_looks_32 : decode cL_looks 32 = .ok (.imul, 1) := by decide +kernel
theorem dL_looks_33 : decode cL_looks 33 = .ok (.iaload, 1) := by decide +kernel
theorem dL_looks_34 : decode cL_looks 34 = .ok (.iconst 3, 1) := by decide +kernel
theorem dL_looks_35 : decode cL_looks 35 = .ok (.if_icmp .ne 32, 3) := by decide +kernel
theorem dL_looks_38 : decode cL_looks 38 = .ok (.iload 5, 2) := by decide +kernel
theorem dL_looks_40 : decode cL_looks 40 = .ok (.ifCond .lt 22, 3) := by decide +kernel
theorem dL_looks_43 : decode cL_looks 43 = .ok (.aload_n 2, 1) := by decide +kernel
theorem dL_looks_44 : decode cL_looks 44 = .ok (.iconst 3, 1) := by decide +kernel
theorem dL_looks_45 : decode cL_looks 45 = .ok (.iload 6, 2) := by decide +kernel
theorem dL_looks_47 : decode cL_looks 47 = .ok (.imul, 1) := by decide +kernel
theorem dL_looks_48 : decode cL_looks 48 = .ok (.iconst 2, 1) := by decide +kernel
theorem dL_looks_49 : decode cL_looks 49 = .ok (.iadd, 1) := by decide +kernel
theorem dL_looks_50 : decode cL_looks 50 = .ok (.iaload, 1) := by decide +kernel
theorem dL_looks_51 : decode cL_looks 51 = .ok (.aload_n 2, 1) := by decide +kernel
theorem dL_looks_52 : decode cL_looks 52 = .ok (.iconst 3, 1) := by decide +kernel
theorem dL_looks_53 : decode cL_looks 53 = .ok (.iload 5, 2) := by decide +kernel
theorem dL_looks_55 : decode cL_looks 55 = .ok (.imul, 1) := by decide +kernel
theorem dL_looks_56 : decode cL_looks 56 = .ok (.iconst 2, 1) := by decide +kernel
theorem dL_looks_57 : decode cL_looks 57 = .ok (.iadd, 1) := by decide +kernel
theorem dL_looks_58 : decode cL_looks 58 = .ok (.iaload, 1) := by decide +kernel
theorem dL_looks_59 : decode cL_looks 59 = .ok (.if_icmp .ge 8, 3) := by decide +kernel
theorem dL_looks_62 : decode cL_looks 62 = .ok (.iload 6, 2) := by decide +kernel
theorem dL_looks_64 : decode cL_looks 64 = .ok (.goto 5, 3) := by decide +kernel
theorem dL_looks_67 : decode cL_looks 67 = .ok (.iload 5, 2) := by decide +kernel
theorem dL_looks_69 : decode cL_looks 69 = .ok (.istore 5, 2) := by decide +kernel
theorem dL_looks_71 : decode cL_looks 71 = .ok (.iinc 6 1, 3) := by decide +kernel
theorem dL_looks_74 : decode cL_looks 74 = .ok (.goto (-52), 3) := by decide +kernel
theorem dL_looks_77 : decode cL_looks 77 = .ok (.iload 5, 2) := by decide +kernel
theorem dL_looks_79 : decode cL_looks 79 = .ok (.ifCond .lt 7, 3) := by decide +kernel
theorem dL_looks_82 : decode cL_looks 82 = .ok (.iconst 1, 1) := by decide +kernel
theorem dL_looks_83 : decode cL_looks 83 = .ok (.goto 4, 3) := by decide +kernel
theorem dL_looks_86 : decode cL_looks 86 = .ok (.iconst 0, 1) := by decide +kernel
theorem dL_looks_87 : decode cL_looks 87 = .ok (.istore 4, 2) := by decide +kernel
theorem dL_looks_89 : decode cL_looks 89 = .ok (.iload 4, 2) := by decide +kernel
theorem dL_looks_91 : decode cL_looks 91 = .ok (.ifCond .eq 90, 3) := by decide +kernel
theorem dL_looks_94 : decode cL_looks 94 = .ok (.aload_n 2, 1) := by decide +kernel
theorem dL_looks_95 : decode cL_looks 95 = .ok (.iconst 3, 1) := by decide +kernel
theorem dL_looks_96 : decode cL_looks 96 = .ok (.iload 5, 2) := by decide +kernel
theorem dL_looks_98 : decode cL_looks 98 = .ok (.imul, 1) := by decide +kernel
theorem dL_looks_99 : decode cL_looks 99 = .ok (.iconst 1, 1) := by decide +kernel
theorem dL_looks_100 : decode cL_looks 100 = .ok (.iadd, 1) := by decide +kernel
theorem dL_looks_101 : decode cL_looks 101 = .ok (.iaload, 1) := by decide +kernel
theorem dL_looks_102 : decode cL_looks 102 = .ok (.aload_n 2, 1) := by decide +kernel
theorem dL_looks_103 : decode cL_looks 103 = .ok (.bipush 12, 2) := by decide +kernel
theorem dL_looks_105 : decode cL_looks 105 = .ok (.iaload, 1) := by decide +kernel
theorem dL_looks_106 : decode cL_looks 106 = .ok (.if_icmp .le 75, 3) := by decide +kernel
theorem dL_looks_109 : decode cL_looks 109 = .ok (.aload_n 2, 1) := by decide +kernel
theorem dL_looks_110 : decode cL_looks 110 = .ok (.iconst 3, 1) := by decide +kernel
theorem dL_looks_111 : decode cL_looks 111 = .ok (.iload 5, 2) := by decide +kernel
theorem dL_looks_113 : decode cL_looks 113 = .ok (.imul, 1) := by decide +kernel
theorem dL_looks_114 : decode cL_looks 114 = .ok (.iconst 2, 1) := by decide +kernel
theorem dL_looks_115 : decode cL_looks 115 = .ok (.iastore, 1) := by decide +kernel
theorem dL_looks_116 : decode cL_looks 116 = .ok (.aload_n 2, 1) := by decide +kernel
theorem dL_looks_117 : decode cL_looks 117 = .ok (.bipush 13, 2) := by decide +kernel
theorem dL_looks_119 : decode cL_looks 119 = .ok (.aload_n 2, 1) := by decide +kernel
theorem dL_looks_120 : decode cL_looks 120 = .ok (.bipush 14, 2) := by decide +kernel
theorem dL_looks_122 : decode cL_looks 122 = .ok (.iaload, 1) := by decide +kernel
theorem dL_looks_123 : decode cL_looks 123 = .ok (.iastore, 1) := by decide +kernel
theorem dL_looks_124 : decode cL_looks 124 = .ok (.aload_n 0, 1) := by decide +kernel
theorem dL_looks_125 : decode cL_looks 125 = .ok (.aload_n 2, 1) := by decide +kernel
theorem dL_looks_126 : decode cL_looks 126 = .ok (.bipush 14, 2) := by decide +kernel
theorem dL_looks_128 : decode cL_looks 128 = .ok (.iaload, 1) := by decide +kernel
theorem dL_looks_129 : decode cL_looks 129 = .ok (.iconst 1, 1) := by decide +kernel
theorem dL_looks_130 : decode cL_looks 130 = .ok (.iastore, 1) := by decide +kernel
theorem dL_looks_131 : decode cL_looks 131 = .ok (.aload_n 1, 1) := by decide +kernel
theorem dL_looks_132 : decode cL_looks 132 = .ok (.aload_n 2, 1) := by decide +kernel
theorem dL_looks_133 : decode cL_looks 133 = .ok (.bipush 14, 2) := by decide +kernel
theorem dL_looks_135 : decode cL_looks 135 = .ok (.iaload, 1) := by decide +kernel
theorem dL_looks_136 : decode cL_looks 136 = .ok (.bipush 16, 2) := by decide +kernel
theorem dL_looks_138 : decode cL_looks 138 = .ok (.iload 5, 2) := by decide +kernel
theorem dL_looks_140 : decode cL_looks 140 = .ok (.imul, 1) := by decide +kernel
theorem dL_looks_141 : decode cL_looks 141 = .ok (.bipush 15, 2) := by decide +kernel
theorem dL_looks_143 : decode cL_looks 143 = .ok (.iadd, 1) := by decide +kernel
theorem dL_looks_144 : decode cL_looks 144 = .ok (.iastore, 1) := by decide +kernel
theorem dL_looks_145 : decode cL_looks 145 = .ok (.aload_n 2, 1) := by decide +kernel
theorem dL_looks_146 : decode cL_looks 146 = .ok (.bipush 14, 2) := by decide +kernel
theorem dL_looks_148 : decode cL_looks 148 = .ok (.dup2, 1) := by decide +kernel
theorem dL_looks_149 : decode cL_looks 149 = .ok (.iaload, 1) := by decide +kernel
theorem dL_looks_150 : decode cL_looks 150 = .ok (.iconst 1, 1) := by decide +kernel
theorem dL_looks_151 : decode cL_looks 151 = .ok (.iadd, 1) := by decide +kernel
theorem dL_looks_152 : decode cL_looks 152 = .ok (.iastore, 1) := by decide +kernel
theorem dL_looks_153 : decode cL_looks 153 = .ok (.iconst 0, 1) := by decide +kernel
theorem dL_looks_154 : decode cL_looks 154 = .ok (.istore 6, 2) := by decide +kernel
theorem dL_looks_156 : decode cL_looks 156 = .ok (.iload 6, 2) := by decide +kernel
theorem dL_looks_158 : decode cL_looks 158 = .ok (.iconst 3, 1) := by decide +kernel
theorem dL_looks_159 : decode cL_looks 159 = .ok (.if_icmp .ge 19, 3) := by decide +kernel
theorem dL_looks_162 : decode cL_looks 162 = .ok (.aload_n 3, 1) := by decide +kernel
theorem dL_looks_163 : decode cL_looks 163 = .ok (.iconst 3, 1) := by decide +kernel
theorem dL_looks_164 : decode cL_looks 164 = .ok (.iload 6, 2) := by decide +kernel
theorem dL_looks_166 : decode cL_looks 166 = .ok (.iadd, 1) := by decide +kernel
theorem dL_looks_167 : decode cL_looks 167 = .ok (.aload_n 3, 1) := by decide +kernel
theorem dL_looks_168 : decode cL_looks 168 = .ok (.iload 6, 2) := by decide +kernel
theorem dL_looks_170 : decode cL_looks 170 = .ok (.iaload, 1) := by decide +kernel
theorem dL_looks_171 : decode cL_looks 171 = .ok (.iastore, 1) := by decide +kernel
theorem dL_looks_172 : decode cL_looks 172 = .ok (.iinc 6 1, 3) := by decide +kernel
theorem dL_looks_175 : decode cL_looks 175 = .ok (.goto (-19), 3) := by decide +kernel
theorem dL_looks_178 : decode cL_looks 178 = .ok (.goto 15, 3) := by decide +kernel
theorem dL_looks_181 : decode cL_looks 181 = .ok (.iload 4, 2) := by decide +kernel
theorem dL_looks_183 : decode cL_looks 183 = .ok (.ifCond .eq 10, 3) := by decide +kernel
theorem dL_looks_186 : decode cL_looks 186 = .ok (.aload_n 2, 1) := by decide +kernel
theorem dL_looks_187 : decode cL_looks 187 = .ok (.iconst 3, 1) := by decide +kernel
theorem dL_looks_188 : decode cL_looks 188 = .ok (.iload 5, 2) := by decide +kernel
theorem dL_looks_190 : decode cL_looks 190 = .ok (.imul, 1) := by decide +kernel
theorem dL_looks_191 : decode cL_looks 191 = .ok (.iconst 0, 1) := by decide +kernel
theorem dL_looks_192 : decode cL_looks 192 = .ok (.iastore, 1) := by decide +kernel
theorem dL_looks_193 : decode cL_looks 193 = .ok (.goto (-190), 3) := by decide +kernel
theorem dL_looks_196 : decode cL_looks 196 = .ok (.return_, 1) := by decide +kernel
theorem dL_aborts_0 : decode cL_aborts 0 = .ok (.aload_n 0, 1) := by decide +kernel
theorem dL_aborts_1 : decode cL_aborts 1 = .ok (.iload_n 3, 1) := by decide +kernel
theorem dL_aborts_2 : decode cL_aborts 2 = .ok (.iconst 3, 1) := by decide +kernel
theorem dL_aborts_3 : decode cL_aborts 3 = .ok (.iastore, 1) := by decide +kernel
theorem dL_aborts_4 : decode cL_aborts 4 = .ok (.iload_n 3, 1) := by decide +kernel
theorem dL_aborts_5 : decode cL_aborts 5 = .ok (.aload_n 1, 1) := by decide +kernel
theorem dL_aborts_6 : decode cL_aborts 6 = .ok (.bipush 13, 2) := by decide +kernel
theorem dL_aborts_8 : decode cL_aborts 8 = .ok (.iaload, 1) := by decide +kernel
theorem dL_aborts_9 : decode cL_aborts 9 = .ok (.if_icmp .ne 40, 3) := by decide +kernel
theorem dL_aborts_12 : decode cL_aborts 12 = .ok (.aload_n 1, 1) := by decide +kernel
theorem dL_aborts_13 : decode cL_aborts 13 = .ok (.bipush 13, 2) := by decide +kernel
theorem dL_aborts_15 : decode cL_aborts 15 = .ok (.iconst (-1), 1) := by decide +kernel
theorem dL_aborts_16 : decode cL_aborts 16 = .ok (.iastore, 1) := by decide +kernel
theorem dL_aborts_17 : decode cL_aborts 17 = .ok (.aload_n 1, 1) := by decide +kernel
theorem dL_aborts_18 : decode cL_aborts 18 = .ok (.iconst 3, 1) := by decide +kernel
theorem dL_aborts_19 : decode cL_aborts 19 = .ok (.iload 4, 2) := by decide +kernel
theorem dL_aborts_21 : decode cL_aborts 21 = .ok (.imul, 1) := by decide +kernel
theorem dL_aborts_22 : decode cL_aborts 22 = .ok (.iconst 0, 1) := by decide +kernel
theorem dL_aborts_23 : decode cL_aborts 23 = .ok (.iastore, 1) := by decide +kernel
theorem dL_aborts_24 : decode cL_aborts 24 = .ok (.iconst 0, 1) := by decide +kernel
theorem dL_aborts_25 : decode cL_aborts 25 = .ok (.istore 5, 2) := by decide +kernel
theorem dL_aborts_27 : decode cL_aborts 27 = .ok (.iload 5, 2) := by decide +kernel
theorem dL_aborts_29 : decode cL_aborts 29 = .ok (.iconst 3, 1) := by decide +kernel
theorem dL_aborts_30 : decode cL_aborts 30 = .ok (.if_icmp .ge 19, 3) := by decide +kernel
theorem dL_aborts_33 : decode cL_aborts 33 = .ok (.aload_n 2, 1) := by decide +kernel
theorem dL_aborts_34 : decode cL_aborts 34 = .ok (.iload 5, 2) := by decide +kernel
theorem dL_aborts_36 : decode cL_aborts 36 = .ok (.aload_n 2, 1) := by decide +kernel
theorem dL_aborts_37 : decode cL_aborts 37 = .ok (.iconst 3, 1) := by decide +kernel
theorem dL_aborts_38 : decode cL_aborts 38 = .ok (.iload 5, 2) := by decide +kernel
theorem dL_aborts_40 : decode cL_aborts 40 = .ok (.iadd, 1) := by decide +kernel
theorem dL_aborts_41 : decode cL_aborts 41 = .ok (.iaload, 1) := by decide +kernel
theorem dL_aborts_42 : decode cL_aborts 42 = .ok (.iastore, 1) := by decide +kernel
theorem dL_aborts_43 : decode cL_aborts 43 = .ok (.iinc 5 1, 3) := by decide +kernel
theorem dL_aborts_46 : decode cL_aborts 46 = .ok (.goto (-19), 3) := by decide +kernel
theorem dL_aborts_49 : decode cL_aborts 49 = .ok (.return_, 1) := by decide +kernel
theorem dL_isSo_0 : decode cL_isSo 0 = .ok (.aload_n 0, 1) := by decide +kernel
theorem dL_isSo_1 : decode cL_isSo 1 = .ok (.invokevirtual 88, 3) := by decide +kernel
theorem dL_isSo_4 : decode cL_isSo 4 = .ok (.aload_n 2, 1) := by decide +kernel
theorem dL_isSo_5 : decode cL_isSo 5 = .ok (.bipush 12, 2) := by decide +kernel
theorem dL_isSo_7 : decode cL_isSo 7 = .ok (.iaload, 1) := by decide +kernel
theorem dL_isSo_8 : decode cL_isSo 8 = .ok (.if_icmp .ne 65, 3) := by decide +kernel
theorem dL_isSo_11 : decode cL_isSo 11 = .ok (.aload_n 0, 1) := by decide +kernel
theorem dL_isSo_12 : decode cL_isSo 12 = .ok (.invokevirtual 92, 3) := by decide +kernel
theorem dL_isSo_15 : decode cL_isSo 15 = .ok (.aload_n 2, 1) := by decide +kernel
theorem dL_isSo_16 : decode cL_isSo 16 = .ok (.bipush 13, 2) := by decide +kernel
theorem dL_isSo_18 : decode cL_isSo 18 = .ok (.iaload, 1) := by decide +kernel
theorem dL_isSo_19 : decode cL_isSo 19 = .ok (.if_icmp .ne 54, 3) := by decide +kernel
theorem dL_isSo_22 : decode cL_isSo 22 = .ok (.aload_n 0, 1) := by decide +kernel
theorem dL_isSo_23 : decode cL_isSo 23 = .ok (.iconst 0, 1) := by decide +kernel
theorem dL_isSo_24 : decode cL_isSo 24 = .ok (.iconst 4, 1) := by decide +kernel
theorem dL_isSo_25 : decode cL_isSo 25 = .ok (.invokestatic 95, 3) := by decide +kernel
theorem dL_isSo_28 : decode cL_isSo 28 = .ok (.bipush (-30), 2) := by decide +kernel
theorem dL_isSo_30 : decode cL_isSo 30 = .ok (.if_icmp .ne 43, 3) := by decide +kernel
theorem dL_isSo_33 : decode cL_isSo 33 = .ok (.aload_n 0, 1) := by decide +kernel
theorem dL_isSo_34 : decode cL_isSo 34 = .ok (.iconst 0, 1) := by decide +kernel
theorem dL_isSo_35 : decode cL_isSo 35 = .ok (.iconst (-1), 1) := by decide +kernel
theorem dL_isSo_36 : decode cL_isSo 36 = .ok (.invokestatic 95, 3) := by decide +kernel
theorem dL_isSo_39 : decode cL_isSo 39 = .ok (.bipush (-30), 2) := by decide +kernel
theorem dL_isSo_41 : decode cL_isSo 41 = .ok (.if_icmp .ne 32, 3) := by decide +kernel
theorem dL_isSo_44 : decode cL_isSo 44 = .ok (.aload_n 0, 1) := by decide +kernel
theorem dL_isSo_45 : decode cL_isSo 45 = .ok (.iconst 1, 1) := by decide +kernel
theorem dL_isSo_46 : decode cL_isSo 46 = .ok (.aload_n 2, 1) := by decide +kernel
theorem dL_isSo_47 : decode cL_isSo 47 = .ok (.bipush 14, 2) := by decide +kernel
theorem dL_isSo_49 : decode cL_isSo 49 = .ok (.iaload, 1) := by decide +kernel
theorem dL_isSo_50 : decode cL_isSo 50 = .ok (.invokestatic 95, 3) := by decide +kernel
theorem dL_isSo_53 : decode cL_isSo 53 = .ok (.bipush (-30), 2) := by decide +kernel
theorem dL_isSo_55 : decode cL_isSo 55 = .ok (.if_icmp .ne 18, 3) := by decide +kernel
theorem dL_isSo_58 : decode cL_isSo 58 = .ok (.aload_n 0, 1) := by decide +kernel
theorem dL_isSo_59 : decode cL_isSo 59 = .ok (.iconst 1, 1) := by decide +kernel
theorem dL_isSo_60 : decode cL_isSo 60 = .ok (.iconst (-1), 1) := by decide +kernel
theorem dL_isSo_61 : decode cL_isSo 61 = .ok (.invokestatic 95, 3) := by decide +kernel
theorem dL_isSo_64 : decode cL_isSo 64 = .ok (.bipush (-30), 2) := by decide +kernel
theorem dL_isSo_66 : decode cL_isSo 66 = .ok (.if_icmp .ne 7, 3) := by decide +kernel
theorem dL_isSo_69 : decode cL_isSo 69 = .ok (.iconst 1, 1) := by decide +kernel
theorem dL_isSo_70 : decode cL_isSo 70 = .ok (.goto 4, 3) := by decide +kernel
theorem dL_isSo_73 : decode cL_isSo 73 = .ok (.iconst 0, 1) := by decide +kernel
theorem dL_isSo_74 : decode cL_isSo 74 = .ok (.istore_n 3, 1) := by decide +kernel
theorem dL_isSo_75 : decode cL_isSo 75 = .ok (.iconst 0, 1) := by decide +kernel
theorem dL_isSo_76 : decode cL_isSo 76 = .ok (.istore 4, 2) := by decide +kernel
theorem dL_isSo_78 : decode cL_isSo 78 = .ok (.iload 4, 2) := by decide +kernel
theorem dL_isSo_80 : decode cL_isSo 80 = .ok (.iconst 4, 1) := by decide +kernel
theorem dL_isSo_81 : decode cL_isSo 81 = .ok (.if_icmp .ge 34, 3) := by decide +kernel
theorem dL_isSo_84 : decode cL_isSo 84 = .ok (.iload_n 3, 1) := by decide +kernel
theorem dL_isSo_85 : decode cL_isSo 85 = .ok (.ifCond .eq 30, 3) := by decide +kernel
theorem dL_isSo_88 : decode cL_isSo 88 = .ok (.aload_n 0, 1) := by decide +kernel
theorem dL_isSo_89 : decode cL_isSo 89 = .ok (.iload 4, 2) := by decide +kernel
theorem dL_isSo_91 : decode cL_isSo 91 = .ok (.invokevirtual 75, 3) := by decide +kernel
theorem dL_isSo_94 : decode cL_isSo 94 = .ok (.aload_n 2, 1) := by decide +kernel
theorem dL_isSo_95 : decode cL_isSo 95 = .ok (.iconst 3, 1) := by decide +kernel
theorem dL_isSo_96 : decode cL_isSo 96 = .ok (.iload 4, 2) := by decide +kernel
theorem dL_isSo_98 : decode cL_isSo 98 = .ok (.imul, 1) := by decide +kernel
theorem dL_isSo_99 : decode cL_isSo 99 = .ok (.iaload, 1) := by decide +kernel
theorem dL_isSo_100 : decode cL_isSo 100 = .ok (.if_icmp .ne 7, 3) := by decide +kernel
theorem dL_isSo_103 : decode cL_isSo 103 = .ok (.iconst 1, 1) := by decide +kernel
theorem dL_isSo_104 : decode cL_isSo 104 = .ok (.goto 4, 3) := by decide +kernel
theorem dL_isSo_107 : decode cL_isSo 107 = .ok (.iconst 0, 1) := by decide +kernel
theorem dL_isSo_108 : decode cL_isSo 108 = .ok (.istore_n 3, 1) := by decide +kernel
theorem dL_isSo_109 : decode cL_isSo 109 = .ok (.iinc 4 1, 3) := by decide +kernel
theorem dL_isSo_112 : decode cL_isSo 112 = .ok (.goto (-34), 3) := by decide +kernel
theorem dL_isSo_115 : decode cL_isSo 115 = .ok (.iconst 0, 1) := by decide +kernel
theorem dL_isSo_116 : decode cL_isSo 116 = .ok (.istore 4, 2) := by decide +kernel
theorem dL_isSo_118 : decode cL_isSo 118 = .ok (.iload 4, 2) := by decide +kernel
theorem dL_isSo_120 : decode cL_isSo 120 = .ok (.aload_n 2, 1) := by decide +kernel
theorem dL_isSo_121 : decode cL_isSo 121 = .ok (.bipush 14, 2) := by decide +kernel
theorem dL_isSo_123 : decode cL_isSo 123 = .ok (.iaload, 1) := by decide +kernel
theorem dL_isSo_124 : decode cL_isSo 124 = .ok (.if_icmp .ge 32, 3) := by decide +kernel
theorem dL_isSo_127 : decode cL_isSo 127 = .ok (.iload_n 3, 1) := by decide +kernel
theorem dL_isSo_128 : decode cL_isSo 128 = .ok (.ifCond .eq 28, 3) := by decide +kernel
theorem dL_isSo_131 : decode cL_isSo 131 = .ok (.aload_n 0, 1) := by decide +kernel
theorem dL_isSo_132 : decode cL_isSo 132 = .ok (.iload 4, 2) := by decide +kernel
theorem dL_isSo_134 : decode cL_isSo 134 = .ok (.invokevirtual 78, 3) := by decide +kernel
theorem dL_isSo_137 : decode cL_isSo 137 = .ok (.aload_n 1, 1) := by decide +kernel
theorem dL_isSo_138 : decode cL_isSo 138 = .ok (.iload 4, 2) := by decide +kernel
theorem dL_isSo_140 : decode cL_isSo 140 = .ok (.iaload, 1) := by decide +kernel
theorem dL_isSo_141 : decode cL_isSo 141 = .ok (.if_icmp .ne 7, 3) := by decide +kernel
theorem dL_isSo_144 : decode cL_isSo 144 = .ok (.iconst 1, 1) := by decide +kernel
theorem dL_isSo_145 : decode cL_isSo 145 = .ok (.goto 4, 3) := by decide +kernel
theorem dL_isSo_148 : decode cL_isSo 148 = .ok (.iconst 0, 1) := by decide +kernel
theorem dL_isSo_149 : decode cL_isSo 149 = .ok (.istore_n 3, 1) := by decide +kernel
theorem dL_isSo_150 : decode cL_isSo 150 = .ok (.iinc 4 1, 3) := by decide +kernel
theorem dL_isSo_153 : decode cL_isSo 153 = .ok (.goto (-35), 3) := by decide +kernel
theorem dL_isSo_156 : decode cL_isSo 156 = .ok (.iload_n 3, 1) := by decide +kernel
theorem dL_isSo_157 : decode cL_isSo 157 = .ok (.ireturn, 1) := by decide +kernel
theorem dL_isOpened_0 : decode cL_isOpened 0 = .ok (.iload 5, 2) := by decide +kernel
theorem dL_isOpened_2 : decode cL_isOpened 2 = .ok (.iconst 4, 1) := by decide +kernel
theorem dL_isOpened_3 : decode cL_isOpened 3 = .ok (.if_icmp .ge 7, 3) := by decide +kernel
theorem dL_isOpened_6 : decode cL_isOpened 6 = .ok (.iconst 1, 1) := by decide +kernel
theorem dL_isOpened_7 : decode cL_isOpened 7 = .ok (.goto 4, 3) := by decide +kernel
theorem dL_isOpened_10 : decode cL_isOpened 10 = .ok (.iconst 0, 1) := by decide +kernel
theorem dL_isOpened_11 : decode cL_isOpened 11 = .ok (.istore 7, 2) := by decide +kernel
theorem dL_isOpened_13 : decode cL_isOpened 13 = .ok (.iload 6, 2) := by decide +kernel
theorem dL_isOpened_15 : decode cL_isOpened 15 = .ok (.ifCond .le 14, 3) := by decide +kernel
theorem dL_isOpened_18 : decode cL_isOpened 18 = .ok (.iload 6, 2) := by decide +kernel
theorem dL_isOpened_20 : decode cL_isOpened 20 = .ok (.bipush 101, 2) := by decide +kernel
theorem dL_isOpened_22 : decode cL_isOpened 22 = .ok (.if_icmp .ge 7, 3) := by decide +kernel
theorem dL_isOpened_25 : decode cL_isOpened 25 = .ok (.iconst 1, 1) := by decide +kernel
theorem dL_isOpened_26 : decode cL_isOpened 26 = .ok (.goto 4, 3) := by decide +kernel
theorem dL_isOpened_29 : decode cL_isOpened 29 = .ok (.iconst 0, 1) := by decide +kernel
theorem dL_isOpened_30 : decode cL_isOpened 30 = .ok (.istore 8, 2) := by decide +kernel
theorem dL_isOpened_32 : decode cL_isOpened 32 = .ok (.iload 7, 2) := by decide +kernel
theorem dL_isOpened_34 : decode cL_isOpened 34 = .ok (.ifCond .eq 41, 3) := by decide +kernel
theorem dL_isOpened_37 : decode cL_isOpened 37 = .ok (.aload_n 3, 1) := by decide +kernel
theorem dL_isOpened_38 : decode cL_isOpened 38 = .ok (.iconst 3, 1) := by decide +kernel
theorem dL_isOpened_39 : decode cL_isOpened 39 = .ok (.iload 5, 2) := by decide +kernel
theorem dL_isOpened_41 : decode cL_isOpened 41 = .ok (.imul, 1) := by decide +kernel
theorem dL_isOpened_42 : decode cL_isOpened 42 = .ok (.iaload, 1) := by decide +kernel
theorem dL_isOpened_43 : decode cL_isOpened 43 = .ok (.ifCond .ne 32, 3) := by decide +kernel
theorem dL_isOpened_46 : decode cL_isOpened 46 = .ok (.iload 6, 2) := by decide +kernel
theorem dL_isOpened_48 : decode cL_isOpened 48 = .ok (.aload_n 3, 1) := by decide +kernel
theorem dL_isOpened_49 : decode cL_isOpened 49 = .ok (.bipush 12, 2) := by decide +kernel
theorem dL_isOpened_51 : decode cL_isOpened 51 = .ok (.iaload, 1) := by decide +kernel
theorem dL_isOpened_52 : decode cL_isOpened 52 = .ok (.if_icmp .lt 23, 3) := by decide +kernel
theorem dL_isOpened_55 : decode cL_isOpened 55 = .ok (.iload 6, 2) := by decide +kernel
theorem dL_isOpened_57 : decode cL_isOpened 57 = .ok (.aload_n 3, 1) := by decide +kernel
theorem dL_isOpened_58 : decode cL_isOpened 58 = .ok (.bipush 12, 2) := by decide +kernel
theorem dL_isOpened_60 : decode cL_isOpened 60 = .ok (.iaload, 1) := by decide +kernel
theorem dL_isOpened_61 : decode cL_isOpened 61 = .ok (.if_icmp .gt 10, 3) := by decide +kernel
theorem dL_isOpened_64 : decode cL_isOpened 64 = .ok (.aload_n 3, 1) := by decide +kernel
theorem dL_isOpened_65 : decode cL_isOpened 65 = .ok (.bipush 13, 2) := by decide +kernel
theorem dL_isOpened_67 : decode cL_isOpened 67 = .ok (.iaload, 1) := by decide +kernel
theorem dL_isOpened_68 : decode cL_isOpened 68 = .ok (.ifCond .ge 7, 3) := by decide +kernel
theorem dL_isOpened_71 : decode cL_isOpened 71 = .ok (.iconst 1, 1) := by decide +kernel
theorem dL_isOpened_72 : decode cL_isOpened 72 = .ok (.goto 4, 3) := by decide +kernel
theorem dL_isOpened_75 : decode cL_isOpened 75 = .ok (.iconst 0, 1) := by decide +kernel
theorem dL_isOpened_76 : decode cL_isOpened 76 = .ok (.istore 9, 2) := by decide +kernel
theorem dL_isOpened_78 : decode cL_isOpened 78 = .ok (.iload 9, 2) := by decide +kernel
theorem dL_isOpened_80 : decode cL_isOpened 80 = .ok (.ifCond .eq 8, 3) := by decide +kernel
theorem dL_isOpened_83 : decode cL_isOpened 83 = .ok (.iload 8, 2) := by decide +kernel
theorem dL_isOpened_85 : decode cL_isOpened 85 = .ok (.ifCond .ne 45, 3) := by decide +kernel
theorem dL_isOpened_88 : decode cL_isOpened 88 = .ok (.aload_n 0, 1) := by decide +kernel
theorem dL_isOpened_89 : decode cL_isOpened 89 = .ok (.iconst 2, 1) := by decide +kernel
theorem dL_isOpened_90 : decode cL_isOpened 90 = .ok (.iload 5, 2) := by decide +kernel
theorem dL_isOpened_92 : decode cL_isOpened 92 = .ok (.iload 6, 2) := by decide +kernel
theorem dL_isOpened_94 : decode cL_isOpened 94 = .ok (.iconst 0, 1) := by decide +kernel
theorem dL_isOpened_95 : decode cL_isOpened 95 = .ok (.iconst 0, 1) := by decide +kernel
theorem dL_isOpened_96 : decode cL_isOpened 96 = .ok (.invokestatic 99, 3) := by decide +kernel
theorem dL_isOpened_99 : decode cL_isOpened 99 = .ok (.iload 7, 2) := by decide +kernel
theorem dL_isOpened_101 : decode cL_isOpened 101 = .ok (.ifCond .ne 8, 3) := by decide +kernel
theorem dL_isOpened_104 : decode cL_isOpened 104 = .ok (.bipush (-30), 2) := by decide +kernel
theorem dL_isOpened_106 : decode cL_isOpened 106 = .ok (.goto 15, 3) := by decide +kernel
theorem dL_isOpened_109 : decode cL_isOpened 109 = .ok (.iload 8, 2) := by decide +kernel
theorem dL_isOpened_111 : decode cL_isOpened 111 = .ok (.ifCond .ne 8, 3) := by decide +kernel
theorem dL_isOpened_114 : decode cL_isOpened 114 = .ok (.bipush (-20), 2) := by decide +kernel
theorem dL_isOpened_116 : decode cL_isOpened 116 = .ok (.goto 5, 3) := by decide +kernel
theorem dL_isOpened_119 : decode cL_isOpened 119 = .ok (.bipush (-10), 2) := by decide +kernel
theorem dL_isOpened_121 : decode cL_isOpened 121 = .ok (.if_icmp .ne 7, 3) := by decide +kernel
theorem dL_isOpened_124 : decode cL_isOpened 124 = .ok (.iconst 1, 1) := by decide +kernel
theorem dL_isOpened_125 : decode cL_isOpened 125 = .ok (.goto 4, 3) := by decide +kernel
theorem dL_isOpened_128 : decode cL_isOpened 128 = .ok (.iconst 0, 1) := by decide +kernel
theorem dL_isOpened_129 : decode cL_isOpened 129 = .ok (.ireturn, 1) := by decide +kernel
theorem dL_isOpened_130 : decode cL_isOpened 130 = .ok (.aload_n 3, 1) := by decide +kernel
theorem dL_isOpened_131 : decode cL_isOpened 131 = .ok (.iconst 3, 1) := by decide +kernel
theorem dL_isOpened_132 : decode cL_isOpened 132 = .ok (.iload 5, 2) := by decide +kernel
theorem dL_isOpened_134 : decode cL_isOpened 134 = .ok (.imul, 1) := by decide +kernel
theorem dL_isOpened_135 : decode cL_isOpened 135 = .ok (.iload 6, 2) := by decide +kernel
theorem dL_isOpened_137 : decode cL_isOpened 137 = .ok (.aload_n 3, 1) := by decide +kernel
theorem dL_isOpened_138 : decode cL_isOpened 138 = .ok (.bipush 12, 2) := by decide +kernel
theorem dL_isOpened_140 : decode cL_isOpened 140 = .ok (.iaload, 1) := by decide +kernel
theorem dL_isOpened_141 : decode cL_isOpened 141 = .ok (.if_icmp .ne 7, 3) := by decide +kernel
theorem dL_isOpened_144 : decode cL_isOpened 144 = .ok (.iconst 1, 1) := by decide +kernel
theorem dL_isOpened_145 : decode cL_isOpened 145 = .ok (.goto 4, 3) := by decide +kernel
theorem dL_isOpened_148 : decode cL_isOpened 148 = .ok (.iconst 3, 1) := by decide +kernel
theorem dL_isOpened_149 : decode cL_isOpened 149 = .ok (.iastore, 1) := by decide +kernel
theorem dL_isOpened_150 : decode cL_isOpened 150 = .ok (.aload_n 3, 1) := by decide +kernel
theorem dL_isOpened_151 : decode cL_isOpened 151 = .ok (.iconst 3, 1) := by decide +kernel
theorem dL_isOpened_152 : decode cL_isOpened 152 = .ok (.iload 5, 2) := by decide +kernel
theorem dL_isOpened_154 : decode cL_isOpened 154 = .ok (.imul, 1) := by decide +kernel
theorem dL_isOpened_155 : decode cL_isOpened 155 = .ok (.iconst 1, 1) := by decide +kernel
theorem dL_isOpened_156 : decode cL_isOpened 156 = .ok (.iadd, 1) := by decide +kernel
theorem dL_isOpened_157 : decode cL_isOpened 157 = .ok (.iload 6, 2) := by decide +kernel
theorem dL_isOpened_159 : decode cL_isOpened 159 = .ok (.iastore, 1) := by decide +kernel
theorem dL_isOpened_160 : decode cL_isOpened 160 = .ok (.aload_n 3, 1) := by decide +kernel
theorem dL_isOpened_161 : decode cL_isOpened 161 = .ok (.iconst 3, 1) := by decide +kernel
theorem dL_isOpened_162 : decode cL_isOpened 162 = .ok (.iload 5, 2) := by decide +kernel
theorem dL_isOpened_164 : decode cL_isOpened 164 = .ok (.imul, 1) := by decide +kernel
theorem dL_isOpened_165 : decode cL_isOpened 165 = .ok (.iconst 2, 1) := by decide +kernel
theorem dL_isOpened_166 : decode cL_isOpened 166 = .ok (.iadd, 1) := by decide +kernel
theorem dL_isOpened_167 : decode cL_isOpened 167 = .ok (.aload_n 3, 1) := by decide +kernel
theorem dL_isOpened_168 : decode cL_isOpened 168 = .ok (.bipush 15, 2) := by decide +kernel
theorem dL_isOpened_170 : decode cL_isOpened 170 = .ok (.iaload, 1) := by decide +kernel
theorem dL_isOpened_171 : decode cL_isOpened 171 = .ok (.iastore, 1) := by decide +kernel
theorem dL_isOpened_172 : decode cL_isOpened 172 = .ok (.aload_n 3, 1) := by decide +kernel
theorem dL_isOpened_173 : decode cL_isOpened 173 = .ok (.bipush 15, 2) := by decide +kernel
theorem dL_isOpened_175 : decode cL_isOpened 175 = .ok (.dup2, 1) := by decide +kernel
theorem dL_isOpened_176 : decode cL_isOpened 176 = .ok (.iaload, 1) := by decide +kernel
theorem dL_isOpened_177 : decode cL_isOpened 177 = .ok (.iconst 1, 1) := by decide +kernel
theorem dL_isOpened_178 : decode cL_isOpened 178 = .ok (.iadd, 1) := by decide +kernel
theorem dL_isOpened_179 : decode cL_isOpened 179 = .ok (.iastore, 1) := by decide +kernel
theorem dL_isOpened_180 : decode cL_isOpened 180 = .ok (.aload_n 1, 1) := by decide +kernel
theorem dL_isOpened_181 : decode cL_isOpened 181 = .ok (.aload_n 2, 1) := by decide +kernel
theorem dL_isOpened_182 : decode cL_isOpened 182 = .ok (.aload_n 3, 1) := by decide +kernel
theorem dL_isOpened_183 : decode cL_isOpened 183 = .ok (.aload 4, 2) := by decide +kernel
theorem dL_isOpened_185 : decode cL_isOpened 185 = .ok (.invokestatic 102, 3) := by decide +kernel
theorem dL_isOpened_188 : decode cL_isOpened 188 = .ok (.aload_n 0, 1) := by decide +kernel
theorem dL_isOpened_189 : decode cL_isOpened 189 = .ok (.iconst 2, 1) := by decide +kernel
theorem dL_isOpened_190 : decode cL_isOpened 190 = .ok (.iload 5, 2) := by decide +kernel
theorem dL_isOpened_192 : decode cL_isOpened 192 = .ok (.iload 6, 2) := by decide +kernel
theorem dL_isOpened_194 : decode cL_isOpened 194 = .ok (.iconst 0, 1) := by decide +kernel
theorem dL_isOpened_195 : decode cL_isOpened 195 = .ok (.iconst 0, 1) := by decide +kernel
theorem dL_isOpened_196 : decode cL_isOpened 196 = .ok (.invokestatic 99, 3) := by decide +kernel
theorem dL_isOpened_199 : decode cL_isOpened 199 = .ok (.aload_n 3, 1) := by decide +kernel
theorem dL_isOpened_200 : decode cL_isOpened 200 = .ok (.iconst 3, 1) := by decide +kernel
theorem dL_isOpened_201 : decode cL_isOpened 201 = .ok (.iload 5, 2) := by decide +kernel
theorem dL_isOpened_203 : decode cL_isOpened 203 = .ok (.imul, 1) := by decide +kernel
theorem dL_isOpened_204 : decode cL_isOpened 204 = .ok (.iaload, 1) := by decide +kernel
theorem dL_isOpened_205 : decode cL_isOpened 205 = .ok (.if_icmp .ne 7, 3) := by decide +kernel
theorem dL_isOpened_208 : decode cL_isOpened 208 = .ok (.iconst 1, 1) := by decide +kernel
theorem dL_isOpened_209 : decode cL_isOpened 209 = .ok (.goto 4, 3) := by decide +kernel
theorem dL_isOpened_212 : decode cL_isOpened 212 = .ok (.iconst 0, 1) := by decide +kernel
theorem dL_isOpened_213 : decode cL_isOpened 213 = .ok (.ireturn, 1) := by decide +kernel
theorem dL_isClosed_0 : decode cL_isClosed 0 = .ok (.iload 5, 2) := by decide +kernel
theorem dL_isClosed_2 : decode cL_isClosed 2 = .ok (.iconst 4, 1) := by decide +kernel
theorem dL_isClosed_3 : decode cL_isClosed 3 = .ok (.if_icmp .eq 12, 3) := by decide +kernel
theorem dL_isClosed_6 : decode cL_isClosed 6 = .ok (.aload_n 3, 1) := by decide +kernel
theorem dL_isClosed_7 : decode cL_isClosed 7 = .ok (.iconst 3, 1) := by decide +kernel
theorem dL_isClosed_8 : decode cL_isClosed 8 = .ok (.iload 5, 2) := by decide +kernel
theorem dL_isClosed_10 : decode cL_isClosed 10 = .ok (.imul, 1) := by decide +kernel
theorem dL_isClosed_11 : decode cL_isClosed 11 = .ok (.iaload, 1) := by decide +kernel
theorem dL_isClosed_12 : decode cL_isClosed 12 = .ok (.ifCond .ne 35, 3) := by decide +kernel
theorem dL_isClosed_15 : decode cL_isClosed 15 = .ok (.aload_n 0, 1) := by decide +kernel
theorem dL_isClosed_16 : decode cL_isClosed 16 = .ok (.iconst 3, 1) := by decide +kernel
theorem dL_isClosed_17 : decode cL_isClosed 17 = .ok (.iload 5, 2) := by decide +kernel
theorem dL_isClosed_19 : decode cL_isClosed 19 = .ok (.iconst 0, 1) := by decide +kernel
theorem dL_isClosed_20 : decode cL_isClosed 20 = .ok (.iconst 0, 1) := by decide +kernel
theorem dL_isClosed_21 : decode cL_isClosed 21 = .ok (.iconst 0, 1) := by decide +kernel
theorem dL_isClosed_22 : decode cL_isClosed 22 = .ok (.invokestatic 99, 3) := by decide +kernel
theorem dL_isClosed_25 : decode cL_isClosed 25 = .ok (.iload 5, 2) := by decide +kernel
theorem dL_isClosed_27 : decode cL_isClosed 27 = .ok (.iconst 4, 1) := by decide +kernel
theorem dL_isClosed_28 : decode cL_isClosed 28 = .ok (.if_icmp .ne 8, 3) := by decide +kernel
theorem dL_isClosed_31 : decode cL_isClosed 31 = .ok (.bipush (-30), 2) := by decide +kernel
theorem dL_isClosed_33 : decode cL_isClosed 33 = .ok (.goto 5, 3) := by decide +kernel
theorem dL_isClosed_36 : decode cL_isClosed 36 = .ok (.bipush (-10), 2) := by decide +kernel
theorem dL_isClosed_38 : decode cL_isClosed 38 = .ok (.if_icmp .ne 7, 3) := by decide +kernel
theorem dL_isClosed_41 : decode cL_isClosed 41 = .ok (.iconst 1, 1) := by decide +kernel
theorem dL_isClosed_42 : decode cL_isClosed 42 = .ok (.goto 4, 3) := by decide +kernel
theorem dL_isClosed_45 : decode cL_isClosed 45 = .ok (.iconst 0, 1) := by decide +kernel
theorem dL_isClosed_46 : decode cL_isClosed 46 = .ok (.ireturn, 1) := by decide +kernel
theorem dL_isClosed_47 : decode cL_isClosed 47 = .ok (.aload_n 3, 1) := by decide +kernel
theorem dL_isClosed_48 : decode cL_isClosed 48 = .ok (.iconst 3, 1) := by decide +kernel
theorem dL_isClosed_49 : decode cL_isClosed 49 = .ok (.iload 5, 2) := by decide +kernel
theorem dL_isClosed_51 : decode cL_isClosed 51 = .ok (.imul, 1) := by decide +kernel
theorem dL_isClosed_52 : decode cL_isClosed 52 = .ok (.iaload, 1) := by decide +kernel
theorem dL_isClosed_53 : decode cL_isClosed 53 = .ok (.istore 6, 2) := by decide +kernel
theorem dL_isClosed_55 : decode cL_isClosed 55 = .ok (.aload_n 3, 1) := by decide +kernel
theorem dL_isClosed_56 : decode cL_isClosed 56 = .ok (.bipush 14, 2) := by decide +kernel
theorem dL_isClosed_58 : decode cL_isClosed 58 = .ok (.iaload, 1) := by decide +kernel
theorem dL_isClosed_59 : decode cL_isClosed 59 = .ok (.iconst 1, 1) := by decide +kernel
theorem dL_isClosed_60 : decode cL_isClosed 60 = .ok (.isub, 1) := by decide +kernel
theorem dL_isClosed_61 : decode cL_isClosed 61 = .ok (.istore 7, 2) := by decide +kernel
theorem dL_isClosed_63 : decode cL_isClosed 63 = .ok (.iload 7, 2) := by decide +kernel
theorem dL_isClosed_65 : decode cL_isClosed 65 = .ok (.ifCond .lt 41, 3) := by decide +kernel
theorem dL_isClosed_68 : decode cL_isClosed 68 = .ok (.aload_n 2, 1) := by decide +kernel
theorem dL_isClosed_69 : decode cL_isClosed 69 = .ok (.iload 7, 2) := by decide +kernel
theorem dL_isClosed_71 : decode cL_isClosed 71 = .ok (.iaload, 1) := by decide +kernel
theorem dL_isClosed_72 : decode cL_isClosed 72 = .ok (.bipush 16, 2) := by decide +kernel
theorem dL_isClosed_74 : decode cL_isClosed 74 = .ok (.idiv, 1) := by decide +kernel
theorem dL_isClosed_75 : decode cL_isClosed 75 = .ok (.iload 5, 2) := by decide +kernel
theorem dL_isClosed_77 : decode cL_isClosed 77 = .ok (.if_icmp .ne 23, 3) := by decide +kernel
theorem dL_isClosed_80 : decode cL_isClosed 80 = .ok (.aload_n 1, 1) := by decide +kernel
theorem dL_isClosed_81 : decode cL_isClosed 81 = .ok (.iload 7, 2) := by decide +kernel
theorem dL_isClosed_83 : decode cL_isClosed 83 = .ok (.invokestatic 81, 3) := by decide +kernel
theorem dL_isClosed_86 : decode cL_isClosed 86 = .ok (.ifCond .eq 14, 3) := by decide +kernel
theorem dL_isClosed_89 : decode cL_isClosed 89 = .ok (.aload_n 1, 1) := by decide +kernel
theorem dL_isClosed_90 : decode cL_isClosed 90 = .ok (.aload_n 3, 1) := by decide +kernel
theorem dL_isClosed_91 : decode cL_isClosed 91 = .ok (.aload 4, 2) := by decide +kernel
theorem dL_isClosed_93 : decode cL_isClosed 93 = .ok (.iload 7, 2) := by decide +kernel
theorem dL_isClosed_95 : decode cL_isClosed 95 = .ok (.iload 5, 2) := by decide +kernel
theorem dL_isClosed_97 : decode cL_isClosed 97 = .ok (.invokestatic 106, 3) := by decide +kernel
theorem dL_isClosed_100 : decode cL_isClosed 100 = .ok (.iinc 7 (-1), 3) := by decide +kernel
theorem dL_isClosed_103 : decode cL_isClosed 103 = .ok (.goto (-40), 3) := by decide +kernel
theorem dL_isClosed_106 : decode cL_isClosed 106 = .ok (.aload_n 3, 1) := by decide +kernel
theorem dL_isClosed_107 : decode cL_isClosed 107 = .ok (.iconst 3, 1) := by decide +kernel
theorem dL_isClosed_108 : decode cL_isClosed 108 = .ok (.iload 5, 2) := by decide +kernel
theorem dL_isClosed_110 : decode cL_isClosed 110 = .ok (.imul, 1) := by decide +kernel
theorem dL_isClosed_111 : decode cL_isClosed 111 = .ok (.iconst 0, 1) := by decide +kernel
theorem dL_isClosed_112 : decode cL_isClosed 112 = .ok (.iastore, 1) := by decide +kernel
theorem dL_isClosed_113 : decode cL_isClosed 113 = .ok (.aload_n 1, 1) := by decide +kernel
theorem dL_isClosed_114 : decode cL_isClosed 114 = .ok (.aload_n 2, 1) := by decide +kernel
theorem dL_isClosed_115 : decode cL_isClosed 115 = .ok (.aload_n 3, 1) := by decide +kernel
theorem dL_isClosed_116 : decode cL_isClosed 116 = .ok (.invokestatic 110, 3) := by decide +kernel
theorem dL_isClosed_119 : decode cL_isClosed 119 = .ok (.pop, 1) := by decide +kernel
theorem dL_isClosed_120 : decode cL_isClosed 120 = .ok (.aload_n 1, 1) := by decide +kernel
theorem dL_isClosed_121 : decode cL_isClosed 121 = .ok (.aload_n 2, 1) := by decide +kernel
theorem dL_isClosed_122 : decode cL_isClosed 122 = .ok (.aload_n 3, 1) := by decide +kernel
theorem dL_isClosed_123 : decode cL_isClosed 123 = .ok (.aload 4, 2) := by decide +kernel
theorem dL_isClosed_125 : decode cL_isClosed 125 = .ok (.invokestatic 102, 3) := by decide +kernel
theorem dL_isClosed_128 : decode cL_isClosed 128 = .ok (.aload_n 0, 1) := by decide +kernel
theorem dL_isClosed_129 : decode cL_isClosed 129 = .ok (.iconst 3, 1) := by decide +kernel
theorem dL_isClosed_130 : decode cL_isClosed 130 = .ok (.iload 5, 2) := by decide +kernel
theorem dL_isClosed_132 : decode cL_isClosed 132 = .ok (.iconst 0, 1) := by decide +kernel
theorem dL_isClosed_133 : decode cL_isClosed 133 = .ok (.iconst 0, 1) := by decide +kernel
theorem dL_isClosed_134 : decode cL_isClosed 134 = .ok (.iconst 0, 1) := by decide +kernel
theorem dL_isClosed_135 : decode cL_isClosed 135 = .ok (.invokestatic 99, 3) := by decide +kernel
theorem dL_isClosed_138 : decode cL_isClosed 138 = .ok (.iload 6, 2) := by decide +kernel
theorem dL_isClosed_140 : decode cL_isClosed 140 = .ok (.if_icmp .ne 7, 3) := by decide +kernel
theorem dL_isClosed_143 : decode cL_isClosed 143 = .ok (.iconst 1, 1) := by decide +kernel
theorem dL_isClosed_144 : decode cL_isClosed 144 = .ok (.goto 4, 3) := by decide +kernel
theorem dL_isClosed_147 : decode cL_isClosed 147 = .ok (.iconst 0, 1) := by decide +kernel
theorem dL_isClosed_148 : decode cL_isClosed 148 = .ok (.ireturn, 1) := by decide +kernel
theorem dL_isBegun_0 : decode cL_isBegun 0 = .ok (.iload 5, 2) := by decide +kernel
theorem dL_isBegun_2 : decode cL_isBegun 2 = .ok (.iconst 4, 1) := by decide +kernel
theorem dL_isBegun_3 : decode cL_isBegun 3 = .ok (.if_icmp .ge 7, 3) := by decide +kernel
theorem dL_isBegun_6 : decode cL_isBegun 6 = .ok (.iconst 1, 1) := by decide +kernel
theorem dL_isBegun_7 : decode cL_isBegun 7 = .ok (.goto 4, 3) := by decide +kernel
theorem dL_isBegun_10 : decode cL_isBegun 10 = .ok (.iconst 0, 1) := by decide +kernel
theorem dL_isBegun_11 : decode cL_isBegun 11 = .ok (.istore 8, 2) := by decide +kernel
theorem dL_isBegun_13 : decode cL_isBegun 13 = .ok (.iload 6, 2) := by decide +kernel
theorem dL_isBegun_15 : decode cL_isBegun 15 = .ok (.ifCond .le 7, 3) := by decide +kernel
theorem dL_isBegun_18 : decode cL_isBegun 18 = .ok (.iconst 1, 1) := by decide +kernel
theorem dL_isBegun_19 : decode cL_isBegun 19 = .ok (.goto 4, 3) := by decide +kernel
theorem dL_isBegun_22 : decode cL_isBegun 22 = .ok (.iconst 0, 1) := by decide +kernel
theorem dL_isBegun_23 : decode cL_isBegun 23 = .ok (.istore 9, 2) := by decide +kernel
theorem dL_isBegun_25 : decode cL_isBegun 25 = .ok (.iconst 0, 1) := by decide +kernel
theorem dL_isBegun_26 : decode cL_isBegun 26 = .ok (.istore 10, 2) := by decide +kernel
theorem dL_isBegun_28 : decode cL_isBegun 28 = .ok (.iload 10, 2) := by decide +kernel
theorem dL_isBegun_30 : decode cL_isBegun 30 = .ok (.iconst 3, 1) := by decide +kernel
theorem dL_isBegun_31 : decode cL_isBegun 31 = .ok (.if_icmp .ge 40, 3) := by decide +kernel
theorem dL_isBegun_34 : decode cL_isBegun 34 = .ok (.iload 8, 2) := by decide +kernel
theorem dL_isBegun_36 : decode cL_isBegun 36 = .ok (.ifCond .eq 35, 3) := by decide +kernel
theorem dL_isBegun_39 : decode cL_isBegun 39 = .ok (.iload 6, 2) := by decide +kernel
theorem dL_isBegun_41 : decode cL_isBegun 41 = .ok (.iload 10, 2) := by decide +kernel
theorem dL_isBegun_43 : decode cL_isBegun 43 = .ok (.ishr, 1) := by decide +kernel
theorem dL_isBegun_44 : decode cL_isBegun 44 = .ok (.iconst 1, 1) := by decide +kernel
theorem dL_isBegun_45 : decode cL_isBegun 45 = .ok (.iand, 1) := by decide +kernel
theorem dL_isBegun_46 : decode cL_isBegun 46 = .ok (.ifCond .eq 12, 3) := by decide +kernel
theorem dL_isBegun_49 : decode cL_isBegun 49 = .ok (.aload 4, 2) := by decide +kernel
theorem dL_isBegun_51 : decode cL_isBegun 51 = .ok (.iload 10, 2) := by decide +kernel
theorem dL_isBegun_53 : decode cL_isBegun 53 = .ok (.iaload, 1) := by decide +kernel
theorem dL_isBegun_54 : decode cL_isBegun 54 = .ok (.iconst 1, 1) := by decide +kernel
theorem dL_isBegun_55 : decode cL_isBegun 55 = .ok (.if_icmp .ne 7, 3) := by decide +kernel
theorem dL_isBegun_58 : decode cL_isBegun 58 = .ok (.iconst 1, 1) := by decide +kernel
theorem dL_isBegun_59 : decode cL_isBegun 59 = .ok (.goto 4, 3) := by decide +kernel
theorem dL_isBegun_62 : decode cL_isBegun 62 = .ok (.iconst 0, 1) := by decide +kernel
theorem dL_isBegun_63 : decode cL_isBegun 63 = .ok (.istore 8, 2) := by decide +kernel
theorem dL_isBegun_65 : decode cL_isBegun 65 = .ok (.iinc 10 1, 3) := by decide +kernel
theorem dL_isBegun_68 : decode cL_isBegun 68 = .ok (.goto (-40), 3) := by decide +kernel
theorem dL_isBegun_71 : decode cL_isBegun 71 = .ok (.iload 8, 2) := by decide +kernel
theorem dL_isBegun_73 : decode cL_isBegun 73 = .ok (.ifCond .ne 8, 3) := by decide +kernel
theorem dL_isBegun_76 : decode cL_isBegun 76 = .ok (.bipush (-30), 2) := by decide +kernel
theorem dL_isBegun_78 : decode cL_isBegun 78 = .ok (.goto 32, 3) := by decide +kernel
theorem dL_isBegun_81 : decode cL_isBegun 81 = .ok (.iload 9, 2) := by decide +kernel
theorem dL_isBegun_83 : decode cL_isBegun 83 = .ok (.ifCond .ne 8, 3) := by decide +kernel
theorem dL_isBegun_86 : decode cL_isBegun 86 = .ok (.bipush (-20), 2) := by decide +kernel
theorem dL_isBegun_88 : decode cL_isBegun 88 = .ok (.goto 22, 3) := by decide +kernel
theorem dL_isBegun_91 : decode cL_isBegun 91 = .ok (.aload_n 3, 1) := by decide +kernel
theorem dL_isBegun_92 : decode cL_isBegun 92 = .ok (.iconst 3, 1) := by decide +kernel
theorem dL_isBegun_93 : decode cL_isBegun 93 = .ok (.iload 5, 2) := by decide +kernel
theorem dL_isBegun_95 : decode cL_isBegun 95 = .ok (.imul, 1) := by decide +kernel
theorem dL_isBegun_96 : decode cL_isBegun 96 = .ok (.iaload, 1) := by decide +kernel
theorem dL_isBegun_97 : decode cL_isBegun 97 = .ok (.iconst 1, 1) := by decide +kernel
theorem dL_isBegun_98 : decode cL_isBegun 98 = .ok (.if_icmp .eq 8, 3) := by decide +kernel
theorem dL_isBegun_101 : decode cL_isBegun 101 = .ok (.bipush (-10), 2) := by decide +kernel
theorem dL_isBegun_103 : decode cL_isBegun 103 = .ok (.goto 7, 3) := by decide +kernel
theorem dL_isBegun_106 : decode cL_isBegun 106 = .ok (.aload_n 3, 1) := by decide +kernel
theorem dL_isBegun_107 : decode cL_isBegun 107 = .ok (.bipush 14, 2) := by decide +kernel
theorem dL_isBegun_109 : decode cL_isBegun 109 = .ok (.iaload, 1) := by decide +kernel
theorem dL_isBegun_110 : decode cL_isBegun 110 = .ok (.istore 10, 2) := by decide +kernel
theorem dL_isBegun_112 : decode cL_isBegun 112 = .ok (.iload 10, 2) := by decide +kernel
theorem dL_isBegun_114 : decode cL_isBegun 114 = .ok (.ifCond .lt 47, 3) := by decide +kernel
theorem dL_isBegun_117 : decode cL_isBegun 117 = .ok (.aload_n 1, 1) := by decide +kernel
theorem dL_isBegun_118 : decode cL_isBegun 118 = .ok (.iload 10, 2) := by decide +kernel
theorem dL_isBegun_120 : decode cL_isBegun 120 = .ok (.iconst 0, 1) := by decide +kernel
theorem dL_isBegun_121 : decode cL_isBegun 121 = .ok (.iastore, 1) := by decide +kernel
theorem dL_isBegun_122 : decode cL_isBegun 122 = .ok (.aload_n 2, 1) := by decide +kernel
theorem dL_isBegun_123 : decode cL_isBegun 123 = .ok (.iload 10, 2) := by decide +kernel
theorem dL_isBegun_125 : decode cL_isBegun 125 = .ok (.bipush 16, 2) := by decide +kernel
theorem dL_isBegun_127 : decode cL_isBegun 127 = .ok (.iload 5, 2) := by decide +kernel
theorem dL_isBegun_129 : decode cL_isBegun 129 = .ok (.imul, 1) := by decide +kernel
theorem dL_isBegun_130 : decode cL_isBegun 130 = .ok (.iload 6, 2) := by decide +kernel
theorem dL_isBegun_132 : decode cL_isBegun 132 = .ok (.iadd, 1) := by decide +kernel
theorem dL_isBegun_133 : decode cL_isBegun 133 = .ok (.iload 7, 2) := by decide +kernel
theorem dL_isBegun_135 : decode cL_isBegun 135 = .ok (.ifCond .eq 8, 3) := by decide +kernel
theorem dL_isBegun_138 : decode cL_isBegun 138 = .ok (.bipush 8, 2) := by decide +kernel
theorem dL_isBegun_140 : decode cL_isBegun 140 = .ok (.goto 4, 3) := by decide +kernel
theorem dL_isBegun_143 : decode cL_isBegun 143 = .ok (.iconst 0, 1) := by decide +kernel
theorem dL_isBegun_144 : decode cL_isBegun 144 = .ok (.iadd, 1) := by decide +kernel
theorem dL_isBegun_145 : decode cL_isBegun 145 = .ok (.iastore, 1) := by decide +kernel
theorem dL_isBegun_146 : decode cL_isBegun 146 = .ok (.aload_n 3, 1) := by decide +kernel
theorem dL_isBegun_147 : decode cL_isBegun 147 = .ok (.bipush 14, 2) := by decide +kernel
theorem dL_isBegun_149 : decode cL_isBegun 149 = .ok (.dup2, 1) := by decide +kernel
theorem dL_isBegun_150 : decode cL_isBegun 150 = .ok (.iaload, 1) := by decide +kernel
theorem dL_isBegun_151 : decode cL_isBegun 151 = .ok (.iconst 1, 1) := by decide +kernel
theorem dL_isBegun_152 : decode cL_isBegun 152 = .ok (.iadd, 1) := by decide +kernel
theorem dL_isBegun_153 : decode cL_isBegun 153 = .ok (.iastore, 1) := by decide +kernel
theorem dL_isBegun_154 : decode cL_isBegun 154 = .ok (.aload_n 1, 1) := by decide +kernel
theorem dL_isBegun_155 : decode cL_isBegun 155 = .ok (.aload_n 2, 1) := by decide +kernel
theorem dL_isBegun_156 : decode cL_isBegun 156 = .ok (.aload_n 3, 1) := by decide +kernel
theorem dL_isBegun_157 : decode cL_isBegun 157 = .ok (.invokestatic 110, 3) := by decide +kernel
theorem dL_isBegun_160 : decode cL_isBegun 160 = .ok (.pop, 1) := by decide +kernel
theorem dL_isBegun_161 : decode cL_isBegun 161 = .ok (.aload_n 0, 1) := by decide +kernel
theorem dL_isBegun_162 : decode cL_isBegun 162 = .ok (.iconst 5, 1) := by decide +kernel
theorem dL_isBegun_163 : decode cL_isBegun 163 = .ok (.iload 5, 2) := by decide +kernel
theorem dL_isBegun_165 : decode cL_isBegun 165 = .ok (.iload 6, 2) := by decide +kernel
theorem dL_isBegun_167 : decode cL_isBegun 167 = .ok (.iload 7, 2) := by decide +kernel
theorem dL_isBegun_169 : decode cL_isBegun 169 = .ok (.ifCond .eq 7, 3) := by decide +kernel
theorem dL_isBegun_172 : decode cL_isBegun 172 = .ok (.iconst 1, 1) := by decide +kernel
theorem dL_isBegun_173 : decode cL_isBegun 173 = .ok (.goto 4, 3) := by decide +kernel
theorem dL_isBegun_176 : decode cL_isBegun 176 = .ok (.iconst 0, 1) := by decide +kernel
theorem dL_isBegun_177 : decode cL_isBegun 177 = .ok (.iconst 0, 1) := by decide +kernel
theorem dL_isBegun_178 : decode cL_isBegun 178 = .ok (.invokestatic 99, 3) := by decide +kernel
theorem dL_isBegun_181 : decode cL_isBegun 181 = .ok (.iload 10, 2) := by decide +kernel
theorem dL_isBegun_183 : decode cL_isBegun 183 = .ok (.if_icmp .ne 25, 3) := by decide +kernel
theorem dL_isBegun_186 : decode cL_isBegun 186 = .ok (.iload 10, 2) := by decide +kernel
theorem dL_isBegun_188 : decode cL_isBegun 188 = .ok (.ifCond .lt 16, 3) := by decide +kernel
theorem dL_isBegun_191 : decode cL_isBegun 191 = .ok (.aload_n 0, 1) := by decide +kernel
theorem dL_isBegun_192 : decode cL_isBegun 192 = .ok (.iload 10, 2) := by decide +kernel
theorem dL_isBegun_194 : decode cL_isBegun 194 = .ok (.invokevirtual 78, 3) := by decide +kernel
theorem dL_isBegun_197 : decode cL_isBegun 197 = .ok (.aload_n 1, 1) := by decide +kernel
theorem dL_isBegun_198 : decode cL_isBegun 198 = .ok (.iload 10, 2) := by decide +kernel
theorem dL_isBegun_200 : decode cL_isBegun 200 = .ok (.iaload, 1) := by decide +kernel
theorem dL_isBegun_201 : decode cL_isBegun 201 = .ok (.if_icmp .ne 7, 3) := by decide +kernel
theorem dL_isBegun_204 : decode cL_isBegun 204 = .ok (.iconst 1, 1) := by decide +kernel
theorem dL_isBegun_205 : decode cL_isBegun 205 = .ok (.goto 4, 3) := by decide +kernel
theorem dL_isBegun_208 : decode cL_isBegun 208 = .ok (.iconst 0, 1) := by decide +kernel
theorem dL_isBegun_209 : decode cL_isBegun 209 = .ok (.ireturn, 1) := by decide +kernel
theorem dL_isEnded_0 : decode cL_isEnded 0 = .ok (.iload 5, 2) := by decide +kernel
theorem dL_isEnded_2 : decode cL_isEnded 2 = .ok (.aload_n 3, 1) := by decide +kernel
theorem dL_isEnded_3 : decode cL_isEnded 3 = .ok (.bipush 14, 2) := by decide +kernel
theorem dL_isEnded_5 : decode cL_isEnded 5 = .ok (.iaload, 1) := by decide +kernel
theorem dL_isEnded_6 : decode cL_isEnded 6 = .ok (.if_icmp .ne 35, 3) := by decide +kernel
theorem dL_isEnded_9 : decode cL_isEnded 9 = .ok (.aload_n 0, 1) := by decide +kernel
theorem dL_isEnded_10 : decode cL_isEnded 10 = .ok (.iload 6, 2) := by decide +kernel
theorem dL_isEnded_12 : decode cL_isEnded 12 = .ok (.ifCond .eq 8, 3) := by decide +kernel
theorem dL_isEnded_15 : decode cL_isEnded 15 = .ok (.bipush 6, 2) := by decide +kernel
theorem dL_isEnded_17 : decode cL_isEnded 17 = .ok (.goto 5, 3) := by decide +kernel
theorem dL_isEnded_20 : decode cL_isEnded 20 = .ok (.bipush 7, 2) := by decide +kernel
theorem dL_isEnded_22 : decode cL_isEnded 22 = .ok (.iload 5, 2) := by decide +kernel
theorem dL_isEnded_24 : decode cL_isEnded 24 = .ok (.iconst 0, 1) := by decide +kernel
theorem dL_isEnded_25 : decode cL_isEnded 25 = .ok (.iconst 0, 1) := by decide +kernel
theorem dL_isEnded_26 : decode cL_isEnded 26 = .ok (.iconst 0, 1) := by decide +kernel
theorem dL_isEnded_27 : decode cL_isEnded 27 = .ok (.invokestatic 99, 3) := by decide +kernel
theorem dL_isEnded_30 : decode cL_isEnded 30 = .ok (.bipush (-30), 2) := by decide +kernel
theorem dL_isEnded_32 : decode cL_isEnded 32 = .ok (.if_icmp .ne 7, 3) := by decide +kernel
theorem dL_isEnded_35 : decode cL_isEnded 35 = .ok (.iconst 1, 1) := by decide +kernel
theorem dL_isEnded_36 : decode cL_isEnded 36 = .ok (.goto 4, 3) := by decide +kernel
theorem dL_isEnded_39 : decode cL_isEnded 39 = .ok (.iconst 0, 1) := by decide +kernel
theorem dL_isEnded_40 : decode cL_isEnded 40 = .ok (.ireturn, 1) := by decide +kernel
theorem dL_isEnded_41 : decode cL_isEnded 41 = .ok (.iload 6, 2) := by decide +kernel
theorem dL_isEnded_43 : decode cL_isEnded 43 = .ok (.ifCond .eq 14, 3) := by decide +kernel
theorem dL_isEnded_46 : decode cL_isEnded 46 = .ok (.aload_n 1, 1) := by decide +kernel
theorem dL_isEnded_47 : decode cL_isEnded 47 = .ok (.iload 5, 2) := by decide +kernel
theorem dL_isEnded_49 : decode cL_isEnded 49 = .ok (.iaload, 1) := by decide +kernel
theorem dL_isEnded_50 : decode cL_isEnded 50 = .ok (.iconst 1, 1) := by decide +kernel
theorem dL_isEnded_51 : decode cL_isEnded 51 = .ok (.if_icmp .eq 47, 3) := by decide +kernel
theorem dL_isEnded_54 : decode cL_isEnded 54 = .ok (.goto 12, 3) := by decide +kernel
theorem dL_isEnded_57 : decode cL_isEnded 57 = .ok (.aload_n 1, 1) := by decide +kernel
theorem dL_isEnded_58 : decode cL_isEnded 58 = .ok (.iload 5, 2) := by decide +kernel
theorem dL_isEnded_60 : decode cL_isEnded 60 = .ok (.invokestatic 81, 3) := by decide +kernel
theorem dL_isEnded_63 : decode cL_isEnded 63 = .ok (.ifCond .ne 35, 3) := by decide +kernel
theorem dL_isEnded_66 : decode cL_isEnded 66 = .ok (.aload_n 0, 1) := by decide +kernel
theorem dL_isEnded_67 : decode cL_isEnded 67 = .ok (.iload 6, 2) := by decide +kernel
theorem dL_isEnded_69 : decode cL_isEnded 69 = .ok (.ifCond .eq 8, 3) := by decide +kernel
theorem dL_isEnded_72 : decode cL_isEnded 72 = .ok (.bipush 6, 2) := by decide +kernel
theorem dL_isEnded_74 : decode cL_isEnded 74 = .ok (.goto 5, 3) := by decide +kernel
theorem dL_isEnded_77 : decode cL_isEnded 77 = .ok (.bipush 7, 2) := by decide +kernel
theorem dL_isEnded_79 : decode cL_isEnded 79 = .ok (.iload 5, 2) := by decide +kernel
theorem dL_isEnded_81 : decode cL_isEnded 81 = .ok (.iconst 0, 1) := by decide +kernel
theorem dL_isEnded_82 : decode cL_isEnded 82 = .ok (.iconst 0, 1) := by decide +kernel
theorem dL_isEnded_83 : decode cL_isEnded 83 = .ok (.iconst 0, 1) := by decide +kernel
theorem dL_isEnded_84 : decode cL_isEnded 84 = .ok (.invokestatic 99, 3) := by decide +kernel
theorem dL_isEnded_87 : decode cL_isEnded 87 = .ok (.bipush (-10), 2) := by decide +kernel
theorem dL_isEnded_89 : decode cL_isEnded 89 = .ok (.if_icmp .ne 7, 3) := by decide +kernel
theorem dL_isEnded_92 : decode cL_isEnded 92 = .ok (.iconst 1, 1) := by decide +kernel
theorem dL_isEnded_93 : decode cL_isEnded 93 = .ok (.goto 4, 3) := by decide +kernel
theorem dL_isEnded_96 : decode cL_isEnded 96 = .ok (.iconst 0, 1) := by decide +kernel
theorem dL_isEnded_97 : decode cL_isEnded 97 = .ok (.ireturn, 1) := by decide +kernel
theorem dL_isEnded_98 : decode cL_isEnded 98 = .ok (.aload_n 2, 1) := by decide +kernel
theorem dL_isEnded_99 : decode cL_isEnded 99 = .ok (.iload 5, 2) := by decide +kernel
theorem dL_isEnded_101 : decode cL_isEnded 101 = .ok (.iaload, 1) := by decide +kernel
theorem dL_isEnded_102 : decode cL_isEnded 102 = .ok (.bipush 16, 2) := by decide +kernel
theorem dL_isEnded_104 : decode cL_isEnded 104 = .ok (.idiv, 1) := by decide +kernel
theorem dL_isEnded_105 : decode cL_isEnded 105 = .ok (.istore 7, 2) := by decide +kernel
theorem dL_isEnded_107 : decode cL_isEnded 107 = .ok (.iload 6, 2) := by decide +kernel
theorem dL_isEnded_109 : decode cL_isEnded 109 = .ok (.ifCond .eq 36, 3) := by decide +kernel
theorem dL_isEnded_112 : decode cL_isEnded 112 = .ok (.iload 5, 2) := by decide +kernel
theorem dL_isEnded_114 : decode cL_isEnded 114 = .ok (.aload_n 3, 1) := by decide +kernel
theorem dL_isEnded_115 : decode cL_isEnded 115 = .ok (.bipush 13, 2) := by decide +kernel
theorem dL_isEnded_117 : decode cL_isEnded 117 = .ok (.iaload, 1) := by decide +kernel
theorem dL_isEnded_118 : decode cL_isEnded 118 = .ok (.if_icmp .ne 27, 3) := by decide +kernel
theorem dL_isEnded_121 : decode cL_isEnded 121 = .ok (.aload_n 3, 1) := by decide +kernel
theorem dL_isEnded_122 : decode cL_isEnded 122 = .ok (.bipush 12, 2) := by decide +kernel
theorem dL_isEnded_124 : decode cL_isEnded 124 = .ok (.aload_n 3, 1) := by decide +kernel
theorem dL_isEnded_125 : decode cL_isEnded 125 = .ok (.iconst 3, 1) := by decide +kernel
theorem dL_isEnded_126 : decode cL_isEnded 126 = .ok (.iload 7, 2) := by decide +kernel
theorem dL_isEnded_128 : decode cL_isEnded 128 = .ok (.imul, 1) := by decide +kernel
theorem dL_isEnded_129 : decode cL_isEnded 129 = .ok (.iconst 1, 1) := by decide +kernel
theorem dL_isEnded_130 : decode cL_isEnded 130 = .ok (.iadd, 1) := by decide +kernel
theorem dL_isEnded_131 : decode cL_isEnded 131 = .ok (.iaload, 1) := by decide +kernel
theorem dL_isEnded_132 : decode cL_isEnded 132 = .ok (.iastore, 1) := by decide +kernel
theorem dL_isEnded_133 : decode cL_isEnded 133 = .ok (.aload_n 3, 1) := by decide +kernel
theorem dL_isEnded_134 : decode cL_isEnded 134 = .ok (.iconst 3, 1) := by decide +kernel
theorem dL_isEnded_135 : decode cL_isEnded 135 = .ok (.iload 7, 2) := by decide +kernel
theorem dL_isEnded_137 : decode cL_isEnded 137 = .ok (.imul, 1) := by decide +kernel
theorem dL_isEnded_138 : decode cL_isEnded 138 = .ok (.iconst 1, 1) := by decide +kernel
theorem dL_isEnded_139 : decode cL_isEnded 139 = .ok (.iastore, 1) := by decide +kernel
theorem dL_isEnded_140 : decode cL_isEnded 140 = .ok (.aload_n 3, 1) := by decide +kernel
theorem dL_isEnded_141 : decode cL_isEnded 141 = .ok (.bipush 13, 2) := by decide +kernel
theorem dL_isEnded_143 : decode cL_isEnded 143 = .ok (.iconst (-1), 1) := by decide +kernel
theorem dL_isEnded_144 : decode cL_isEnded 144 = .ok (.iastore, 1) := by decide +kernel
theorem dL_isEnded_145 : decode cL_isEnded 145 = .ok (.iload 6, 2) := by decide +kernel
theorem dL_isEnded_147 : decode cL_isEnded 147 = .ok (.ifCond .eq 11, 3) := by decide +kernel
theorem dL_isEnded_150 : decode cL_isEnded 150 = .ok (.aload_n 1, 1) := by decide +kernel
theorem dL_isEnded_151 : decode cL_isEnded 151 = .ok (.iload 5, 2) := by decide +kernel
theorem dL_isEnded_153 : decode cL_isEnded 153 = .ok (.iconst 2, 1) := by decide +kernel
theorem dL_isEnded_154 : decode cL_isEnded 154 = .ok (.iastore, 1) := by decide +kernel
theorem dL_isEnded_155 : decode cL_isEnded 155 = .ok (.goto 14, 3) := by decide +kernel
theorem dL_isEnded_158 : decode cL_isEnded 158 = .ok (.aload_n 1, 1) := by decide +kernel
theorem dL_isEnded_159 : decode cL_isEnded 159 = .ok (.aload_n 3, 1) := by decide +kernel
theorem dL_isEnded_160 : decode cL_isEnded 160 = .ok (.aload 4, 2) := by decide +kernel
theorem dL_isEnded_162 : decode cL_isEnded 162 = .ok (.iload 5, 2) := by decide +kernel
theorem dL_isEnded_164 : decode cL_isEnded 164 = .ok (.iload 7, 2) := by decide +kernel
theorem dL_isEnded_166 : decode cL_isEnded 166 = .ok (.invokestatic 106, 3) := by decide +kernel
theorem dL_isEnded_169 : decode cL_isEnded 169 = .ok (.aload_n 1, 1) := by decide +kernel
theorem dL_isEnded_170 : decode cL_isEnded 170 = .ok (.aload_n 2, 1) := by decide +kernel
theorem dL_isEnded_171 : decode cL_isEnded 171 = .ok (.aload_n 3, 1) := by decide +kernel
theorem dL_isEnded_172 : decode cL_isEnded 172 = .ok (.invokestatic 110, 3) := by decide +kernel
theorem dL_isEnded_175 : decode cL_isEnded 175 = .ok (.istore 8, 2) := by decide +kernel
theorem dL_isEnded_177 : decode cL_isEnded 177 = .ok (.iload 6, 2) := by decide +kernel
theorem dL_isEnded_179 : decode cL_isEnded 179 = .ok (.ifCond .ne 11, 3) := by decide +kernel
theorem dL_isEnded_182 : decode cL_isEnded 182 = .ok (.aload_n 1, 1) := by decide +kernel
theorem dL_isEnded_183 : decode cL_isEnded 183 = .ok (.aload_n 2, 1) := by decide +kernel
theorem dL_isEnded_184 : decode cL_isEnded 184 = .ok (.aload_n 3, 1) := by decide +kernel
theorem dL_isEnded_185 : decode cL_isEnded 185 = .ok (.aload 4, 2) := by decide +kernel
theorem dL_isEnded_187 : decode cL_isEnded 187 = .ok (.invokestatic 102, 3) := by decide +kernel
theorem dL_isEnded_190 : decode cL_isEnded 190 = .ok (.aload_n 0, 1) := by decide +kernel
theorem dL_isEnded_191 : decode cL_isEnded 191 = .ok (.iload 6, 2) := by decide +kernel
theorem dL_isEnded_193 : decode cL_isEnded 193 = .ok (.ifCond .eq 8, 3) := by decide +kernel
theorem dL_isEnded_196 : decode cL_isEnded 196 = .ok (.bipush 6, 2) := by decide +kernel
theorem dL_isEnded_198 : decode cL_isEnded 198 = .ok (.goto 5, 3) := by decide +kernel
theorem dL_isEnded_201 : decode cL_isEnded 201 = .ok (.bipush 7, 2) := by decide +kernel
theorem dL_isEnded_203 : decode cL_isEnded 203 = .ok (.iload 5, 2) := by decide +kernel
theorem dL_isEnded_205 : decode cL_isEnded 205 = .ok (.iconst 0, 1) := by decide +kernel
theorem dL_isEnded_206 : decode cL_isEnded 206 = .ok (.iconst 0, 1) := by decide +kernel
theorem dL_isEnded_207 : decode cL_isEnded 207 = .ok (.iconst 0, 1) := by decide +kernel
theorem dL_isEnded_208 : decode cL_isEnded 208 = .ok (.invokestatic 99, 3) := by decide +kernel
theorem dL_isEnded_211 : decode cL_isEnded 211 = .ok (.iload 8, 2) := by decide +kernel
theorem dL_isEnded_213 : decode cL_isEnded 213 = .ok (.if_icmp .ne 7, 3) := by decide +kernel
theorem dL_isEnded_216 : decode cL_isEnded 216 = .ok (.iconst 1, 1) := by decide +kernel
theorem dL_isEnded_217 : decode cL_isEnded 217 = .ok (.goto 4, 3) := by decide +kernel
theorem dL_isEnded_220 : decode cL_isEnded 220 = .ok (.iconst 0, 1) := by decide +kernel
theorem dL_isEnded_221 : decode cL_isEnded 221 = .ok (.ireturn, 1) := by decide +kernel
theorem dL_isStore_0 : decode cL_isStore 0 = .ok (.iload_n 3, 1) := by decide +kernel
theorem dL_isStore_1 : decode cL_isStore 1 = .ok (.aload_n 1, 1) := by decide +kernel
theorem dL_isStore_2 : decode cL_isStore 2 = .ok (.bipush 14, 2) := by decide +kernel
theorem dL_isStore_4 : decode cL_isStore 4 = .ok (.iaload, 1) := by decide +kernel
theorem dL_isStore_5 : decode cL_isStore 5 = .ok (.if_icmp .ge 38, 3) := by decide +kernel
theorem dL_isStore_8 : decode cL_isStore 8 = .ok (.iload 4, 2) := by decide +kernel
theorem dL_isStore_10 : decode cL_isStore 10 = .ok (.iconst 3, 1) := by decide +kernel
theorem dL_isStore_11 : decode cL_isStore 11 = .ok (.if_icmp .ge 32, 3) := by decide +kernel
theorem dL_isStore_14 : decode cL_isStore 14 = .ok (.iload 5, 2) := by decide +kernel
theorem dL_isStore_16 : decode cL_isStore 16 = .ok (.ifCond .eq 11, 3) := by decide +kernel
theorem dL_isStore_19 : decode cL_isStore 19 = .ok (.aload_n 2, 1) := by decide +kernel
theorem dL_isStore_20 : decode cL_isStore 20 = .ok (.iload 4, 2) := by decide +kernel
theorem dL_isStore_22 : decode cL_isStore 22 = .ok (.iaload, 1) := by decide +kernel
theorem dL_isStore_23 : decode cL_isStore 23 = .ok (.iconst 1, 1) := by decide +kernel
theorem dL_isStore_24 : decode cL_isStore 24 = .ok (.if_icmp .ne 19, 3) := by decide +kernel
theorem dL_isStore_27 : decode cL_isStore 27 = .ok (.iload 5, 2) := by decide +kernel
theorem dL_isStore_29 : decode cL_isStore 29 = .ok (.iconst 1, 1) := by decide +kernel
theorem dL_isStore_30 : decode cL_isStore 30 = .ok (.if_icmp .ne 9, 3) := by decide +kernel
theorem dL_isStore_33 : decode cL_isStore 33 = .ok (.iload 6, 2) := by decide +kernel
theorem dL_isStore_35 : decode cL_isStore 35 = .ok (.iconst 2, 1) := by decide +kernel
theorem dL_isStore_36 : decode cL_isStore 36 = .ok (.if_icmp .ge 7, 3) := by decide +kernel
theorem dL_isStore_39 : decode cL_isStore 39 = .ok (.iconst 1, 1) := by decide +kernel
theorem dL_isStore_40 : decode cL_isStore 40 = .ok (.goto 4, 3) := by decide +kernel
theorem dL_isStore_43 : decode cL_isStore 43 = .ok (.iconst 0, 1) := by decide +kernel
theorem dL_isStore_44 : decode cL_isStore 44 = .ok (.istore 7, 2) := by decide +kernel
theorem dL_isStore_46 : decode cL_isStore 46 = .ok (.iload 7, 2) := by decide +kernel
theorem dL_isStore_48 : decode cL_isStore 48 = .ok (.ifCond .eq 27, 3) := by decide +kernel
theorem dL_isStore_51 : decode cL_isStore 51 = .ok (.iload_n 3, 1) := by decide +kernel
theorem dL_isStore_52 : decode cL_isStore 52 = .ok (.aload_n 1, 1) := by decide +kernel
theorem dL_isStore_53 : decode cL_isStore 53 = .ok (.bipush 13, 2) := by decide +kernel
theorem dL_isStore_55 : decode cL_isStore 55 = .ok (.iaload, 1) := by decide +kernel
theorem dL_isStore_56 : decode cL_isStore 56 = .ok (.if_icmp .ne 19, 3) := by decide +kernel
theorem dL_isStore_59 : decode cL_isStore 59 = .ok (.iload 5, 2) := by decide +kernel
theorem dL_isStore_61 : decode cL_isStore 61 = .ok (.ifCond .ne 10, 3) := by decide +kernel
theorem dL_isStore_64 : decode cL_isStore 64 = .ok (.aload_n 2, 1) := by decide +kernel
theorem dL_isStore_65 : decode cL_isStore 65 = .ok (.iload 4, 2) := by decide +kernel
theorem dL_isStore_67 : decode cL_isStore 67 = .ok (.iaload, 1) := by decide +kernel
theorem dL_isStore_68 : decode cL_isStore 68 = .ok (.ifCond .ne 7, 3) := by decide +kernel
theorem dL_isStore_71 : decode cL_isStore 71 = .ok (.iconst 1, 1) := by decide +kernel
theorem dL_isStore_72 : decode cL_isStore 72 = .ok (.goto 4, 3) := by decide +kernel
theorem dL_isStore_75 : decode cL_isStore 75 = .ok (.iconst 0, 1) := by decide +kernel
theorem dL_isStore_76 : decode cL_isStore 76 = .ok (.istore 8, 2) := by decide +kernel
theorem dL_isStore_78 : decode cL_isStore 78 = .ok (.aload_n 0, 1) := by decide +kernel
theorem dL_isStore_79 : decode cL_isStore 79 = .ok (.iload 5, 2) := by decide +kernel
theorem dL_isStore_81 : decode cL_isStore 81 = .ok (.iload_n 3, 1) := by decide +kernel
theorem dL_isStore_82 : decode cL_isStore 82 = .ok (.iload 4, 2) := by decide +kernel
theorem dL_isStore_84 : decode cL_isStore 84 = .ok (.iload 6, 2) := by decide +kernel
theorem dL_isStore_86 : decode cL_isStore 86 = .ok (.iconst 0, 1) := by decide +kernel
theorem dL_isStore_87 : decode cL_isStore 87 = .ok (.invokestatic 99, 3) := by decide +kernel
theorem dL_isStore_90 : decode cL_isStore 90 = .ok (.istore 9, 2) := by decide +kernel
theorem dL_isStore_92 : decode cL_isStore 92 = .ok (.iload 8, 2) := by decide +kernel
theorem dL_isStore_94 : decode cL_isStore 94 = .ok (.ifCond .ne 26, 3) := by decide +kernel
theorem dL_isStore_97 : decode cL_isStore 97 = .ok (.iload 9, 2) := by decide +kernel
theorem dL_isStore_99 : decode cL_isStore 99 = .ok (.iload 7, 2) := by decide +kernel
theorem dL_isStore_101 : decode cL_isStore 101 = .ok (.ifCond .eq 8, 3) := by decide +kernel
theorem dL_isStore_104 : decode cL_isStore 104 = .ok (.bipush (-10), 2) := by decide +kernel
theorem dL_isStore_106 : decode cL_isStore 106 = .ok (.goto 5, 3) := by decide +kernel
theorem dL_isStore_109 : decode cL_isStore 109 = .ok (.bipush (-30), 2) := by decide +kernel
theorem dL_isStore_111 : decode cL_isStore 111 = .ok (.if_icmp .ne 7, 3) := by decide +kernel
theorem dL_isStore_114 : decode cL_isStore 114 = .ok (.iconst 1, 1) := by decide +kernel
theorem dL_isStore_115 : decode cL_isStore 115 = .ok (.goto 4, 3) := by decide +kernel
theorem dL_isStore_118 : decode cL_isStore 118 = .ok (.iconst 0, 1) := by decide +kernel
theorem dL_isStore_119 : decode cL_isStore 119 = .ok (.ireturn, 1) := by decide +kernel
theorem dL_isStore_120 : decode cL_isStore 120 = .ok (.aload_n 2, 1) := by decide +kernel
theorem dL_isStore_121 : decode cL_isStore 121 = .ok (.iload 4, 2) := by decide +kernel
theorem dL_isStore_123 : decode cL_isStore 123 = .ok (.iload 5, 2) := by decide +kernel
theorem dL_isStore_125 : decode cL_isStore 125 = .ok (.ifCond .ne 7, 3) := by decide +kernel
theorem dL_isStore_128 : decode cL_isStore 128 = .ok (.iconst 1, 1) := by decide +kernel
theorem dL_isStore_129 : decode cL_isStore 129 = .ok (.goto 17, 3) := by decide +kernel
theorem dL_isStore_132 : decode cL_isStore 132 = .ok (.iload 5, 2) := by decide +kernel
theorem dL_isStore_134 : decode cL_isStore 134 = .ok (.iconst 4, 1) := by decide +kernel
theorem dL_isStore_135 : decode cL_isStore 135 = .ok (.if_icmp .ne 7, 3) := by decide +kernel
theorem dL_isStore_138 : decode cL_isStore 138 = .ok (.iconst 0, 1) := by decide +kernel
theorem dL_isStore_139 : decode cL_isStore 139 = .ok (.goto 7, 3) := by decide +kernel
theorem dL_isStore_142 : decode cL_isStore 142 = .ok (.aload_n 2, 1) := by decide +kernel
theorem dL_isStore_143 : decode cL_isStore 143 = .ok (.iload 4, 2) := by decide +kernel
theorem dL_isStore_145 : decode cL_isStore 145 = .ok (.iaload, 1) := by decide +kernel
theorem dL_isStore_146 : decode cL_isStore 146 = .ok (.iastore, 1) := by decide +kernel
theorem dL_isStore_147 : decode cL_isStore 147 = .ok (.iload 5, 2) := by decide +kernel
theorem dL_isStore_149 : decode cL_isStore 149 = .ok (.iconst 4, 1) := by decide +kernel
theorem dL_isStore_150 : decode cL_isStore 150 = .ok (.if_icmp .ne 23, 3) := by decide +kernel
theorem dL_isStore_153 : decode cL_isStore 153 = .ok (.iload 9, 2) := by decide +kernel
theorem dL_isStore_155 : decode cL_isStore 155 = .ok (.ifCond .lt 14, 3) := by decide +kernel
theorem dL_isStore_158 : decode cL_isStore 158 = .ok (.iload 9, 2) := by decide +kernel
theorem dL_isStore_160 : decode cL_isStore 160 = .ok (.bipush 41, 2) := by decide +kernel
theorem dL_isStore_162 : decode cL_isStore 162 = .ok (.if_icmp .ge 7, 3) := by decide +kernel
theorem dL_isStore_165 : decode cL_isStore 165 = .ok (.iconst 1, 1) := by decide +kernel
theorem dL_isStore_166 : decode cL_isStore 166 = .ok (.goto 58, 3) := by decide +kernel
theorem dL_isStore_169 : decode cL_isStore 169 = .ok (.iconst 0, 1) := by decide +kernel
theorem dL_isStore_170 : decode cL_isStore 170 = .ok (.goto 54, 3) := by decide +kernel
theorem dL_isStore_173 : decode cL_isStore 173 = .ok (.iload 5, 2) := by decide +kernel
theorem dL_isStore_175 : decode cL_isStore 175 = .ok (.ifCond .ne 16, 3) := by decide +kernel
theorem dL_isStore_178 : decode cL_isStore 178 = .ok (.iload 9, 2) := by decide +kernel
theorem dL_isStore_180 : decode cL_isStore 180 = .ok (.ifCond .ne 7, 3) := by decide +kernel
theorem dL_isStore_183 : decode cL_isStore 183 = .ok (.iconst 1, 1) := by decide +kernel
theorem dL_isStore_184 : decode cL_isStore 184 = .ok (.goto 40, 3) := by decide +kernel
theorem dL_isStore_187 : decode cL_isStore 187 = .ok (.iconst 0, 1) := by decide +kernel
theorem dL_isStore_188 : decode cL_isStore 188 = .ok (.goto 36, 3) := by decide +kernel
theorem dL_isStore_191 : decode cL_isStore 191 = .ok (.iload 9, 2) := by decide +kernel
theorem dL_isStore_193 : decode cL_isStore 193 = .ok (.ifCond .ne 19, 3) := by decide +kernel
theorem dL_isStore_196 : decode cL_isStore 196 = .ok (.aload_n 0, 1) := by decide +kernel
theorem dL_isStore_197 : decode cL_isStore 197 = .ok (.iconst 1, 1) := by decide +kernel
theorem dL_isStore_198 : decode cL_isStore 198 = .ok (.iload_n 3, 1) := by decide +kernel
theorem dL_isStore_199 : decode cL_isStore 199 = .ok (.iload 4, 2) := by decide +kernel
theorem dL_isStore_201 : decode cL_isStore 201 = .ok (.iload 6, 2) := by decide +kernel
theorem dL_isStore_203 : decode cL_isStore 203 = .ok (.iconst 0, 1) := by decide +kernel
theorem dL_isStore_204 : decode cL_isStore 204 = .ok (.invokestatic 99, 3) := by decide +kernel
theorem dL_isStore_207 : decode cL_isStore 207 = .ok (.bipush (-10), 2) := by decide +kernel
theorem dL_isStore_209 : decode cL_isStore 209 = .ok (.if_icmp .eq 10, 3) := by decide +kernel
theorem dL_isStore_212 : decode cL_isStore 212 = .ok (.iload 9, 2) := by decide +kernel
theorem dL_isStore_214 : decode cL_isStore 214 = .ok (.bipush (-10), 2) := by decide +kernel
theorem dL_isStore_216 : decode cL_isStore 216 = .ok (.if_icmp .ne 7, 3) := by decide +kernel
theorem dL_isStore_219 : decode cL_isStore 219 = .ok (.iconst 1, 1) := by decide +kernel
theorem dL_isStore_220 : decode cL_isStore 220 = .ok (.goto 4, 3) := by decide +kernel
theorem dL_isStore_223 : decode cL_isStore 223 = .ok (.iconst 0, 1) := by decide +kernel
theorem dL_isStore_224 : decode cL_isStore 224 = .ok (.ireturn, 1) := by decide +kernel
theorem dL_isRow_0 : decode cL_isRow 0 = .ok (.iload 5, 2) := by decide +kernel
theorem dL_isRow_2 : decode cL_isRow 2 = .ok (.aload_n 3, 1) := by decide +kernel
theorem dL_isRow_3 : decode cL_isRow 3 = .ok (.bipush 14, 2) := by decide +kernel
theorem dL_isRow_5 : decode cL_isRow 5 = .ok (.iaload, 1) := by decide +kernel
theorem dL_isRow_6 : decode cL_isRow 6 = .ok (.if_icmp .ge 32, 3) := by decide +kernel
theorem dL_isRow_9 : decode cL_isRow 9 = .ok (.iload 6, 2) := by decide +kernel
theorem dL_isRow_11 : decode cL_isRow 11 = .ok (.iconst 3, 1) := by decide +kernel
theorem dL_isRow_12 : decode cL_isRow 12 = .ok (.if_icmp .ge 26, 3) := by decide +kernel
theorem dL_isRow_15 : decode cL_isRow 15 = .ok (.aload 4, 2) := by decide +kernel
theorem dL_isRow_17 : decode cL_isRow 17 = .ok (.iload 6, 2) := by decide +kernel
theorem dL_isRow_19 : decode cL_isRow 19 = .ok (.iconst 3, 1) := by decide +kernel
theorem dL_isRow_20 : decode cL_isRow 20 = .ok (.if_icmp .ge 8, 3) := by decide +kernel
theorem dL_isRow_23 : decode cL_isRow 23 = .ok (.iload 6, 2) := by decide +kernel
theorem dL_isRow_25 : decode cL_isRow 25 = .ok (.goto 4, 3) := by decide +kernel
theorem dL_isRow_28 : decode cL_isRow 28 = .ok (.iconst 0, 1) := by decide +kernel
theorem dL_isRow_29 : decode cL_isRow 29 = .ok (.iaload, 1) := by decide +kernel
theorem dL_isRow_30 : decode cL_isRow 30 = .ok (.iconst 1, 1) := by decide +kernel
theorem dL_isRow_31 : decode cL_isRow 31 = .ok (.if_icmp .ne 7, 3) := by decide +kernel
theorem dL_isRow_34 : decode cL_isRow 34 = .ok (.iconst 1, 1) := by decide +kernel
theorem dL_isRow_35 : decode cL_isRow 35 = .ok (.goto 4, 3) := by decide +kernel
theorem dL_isRow_38 : decode cL_isRow 38 = .ok (.iconst 0, 1) := by decide +kernel
theorem dL_isRow_39 : decode cL_isRow 39 = .ok (.istore 9, 2) := by decide +kernel
theorem dL_isRow_41 : decode cL_isRow 41 = .ok (.iload 7, 2) := by decide +kernel
theorem dL_isRow_43 : decode cL_isRow 43 = .ok (.ifCond .lt 33, 3) := by decide +kernel
theorem dL_isRow_46 : decode cL_isRow 46 = .ok (.iload 7, 2) := by decide +kernel
theorem dL_isRow_48 : decode cL_isRow 48 = .ok (.ldc 114, 2) := by decide +kernel
theorem dL_isRow_50 : decode cL_isRow 50 = .ok (.irem, 1) := by decide +kernel
theorem dL_isRow_51 : decode cL_isRow 51 = .ok (.sipush 1000, 3) := by decide +kernel
theorem dL_isRow_54 : decode cL_isRow 54 = .ok (.if_icmp .ge 22, 3) := by decide +kernel
theorem dL_isRow_57 : decode cL_isRow 57 = .ok (.iload 7, 2) := by decide +kernel
theorem dL_isRow_59 : decode cL_isRow 59 = .ok (.ldc 115, 2) := by decide +kernel
theorem dL_isRow_61 : decode cL_isRow 61 = .ok (.if_icmp .ge 15, 3) := by decide +kernel
theorem dL_isRow_64 : decode cL_isRow 64 = .ok (.iload 8, 2) := by decide +kernel
theorem dL_isRow_66 : decode cL_isRow 66 = .ok (.sipush 10000, 3) := by decide +kernel
theorem dL_isRow_69 : decode cL_isRow 69 = .ok (.if_icmp .ge 7, 3) := by decide +kernel
theorem dL_isRow_72 : decode cL_isRow 72 = .ok (.iconst 1, 1) := by decide +kernel
theorem dL_isRow_73 : decode cL_isRow 73 = .ok (.goto 4, 3) := by decide +kernel
theorem dL_isRow_76 : decode cL_isRow 76 = .ok (.iconst 0, 1) := by decide +kernel
theorem dL_isRow_77 : decode cL_isRow 77 = .ok (.istore 10, 2) := by decide +kernel
theorem dL_isRow_79 : decode cL_isRow 79 = .ok (.iload 9, 2) := by decide +kernel
theorem dL_isRow_81 : decode cL_isRow 81 = .ok (.ifCond .eq 28, 3) := by decide +kernel
theorem dL_isRow_84 : decode cL_isRow 84 = .ok (.aload_n 1, 1) := by decide +kernel
theorem dL_isRow_85 : decode cL_isRow 85 = .ok (.iload 5, 2) := by decide +kernel
theorem dL_isRow_87 : decode cL_isRow 87 = .ok (.iaload, 1) := by decide +kernel
theorem dL_isRow_88 : decode cL_isRow 88 = .ok (.iconst 1, 1) := by decide +kernel
theorem dL_isRow_89 : decode cL_isRow 89 = .ok (.if_icmp .ne 20, 3) := by decide +kernel
theorem dL_isRow_92 : decode cL_isRow 92 = .ok (.aload_n 2, 1) := by decide +kernel
theorem dL_isRow_93 : decode cL_isRow 93 = .ok (.iload 5, 2) := by decide +kernel
theorem dL_isRow_95 : decode cL_isRow 95 = .ok (.iaload, 1) := by decide +kernel
theorem dL_isRow_96 : decode cL_isRow 96 = .ok (.iload 6, 2) := by decide +kernel
theorem dL_isRow_98 : decode cL_isRow 98 = .ok (.ishr, 1) := by decide +kernel
theorem dL_isRow_99 : decode cL_isRow 99 = .ok (.iconst 1, 1) := by decide +kernel
theorem dL_isRow_100 : decode cL_isRow 100 = .ok (.iand, 1) := by decide +kernel
theorem dL_isRow_101 : decode cL_isRow 101 = .ok (.iconst 1, 1) := by decide +kernel
theorem dL_isRow_102 : decode cL_isRow 102 = .ok (.if_icmp .ne 7, 3) := by decide +kernel
theorem dL_isRow_105 : decode cL_isRow 105 = .ok (.iconst 1, 1) := by decide +kernel
theorem dL_isRow_106 : decode cL_isRow 106 = .ok (.goto 4, 3) := by decide +kernel
theorem dL_isRow_109 : decode cL_isRow 109 = .ok (.iconst 0, 1) := by decide +kernel
theorem dL_isRow_110 : decode cL_isRow 110 = .ok (.istore 11, 2) := by decide +kernel
theorem dL_isRow_112 : decode cL_isRow 112 = .ok (.iload 11, 2) := by decide +kernel
theorem dL_isRow_114 : decode cL_isRow 114 = .ok (.ifCond .eq 19, 3) := by decide +kernel
theorem dL_isRow_117 : decode cL_isRow 117 = .ok (.aload_n 2, 1) := by decide +kernel
theorem dL_isRow_118 : decode cL_isRow 118 = .ok (.iload 5, 2) := by decide +kernel
theorem dL_isRow_120 : decode cL_isRow 120 = .ok (.iaload, 1) := by decide +kernel
theorem dL_isRow_121 : decode cL_isRow 121 = .ok (.bipush 8, 2) := by decide +kernel
theorem dL_isRow_123 : decode cL_isRow 123 = .ok (.iand, 1) := by decide +kernel
theorem dL_isRow_124 : decode cL_isRow 124 = .ok (.bipush 8, 2) := by decide +kernel
theorem dL_isRow_126 : decode cL_isRow 126 = .ok (.if_icmp .ne 7, 3) := by decide +kernel
theorem dL_isRow_129 : decode cL_isRow 129 = .ok (.iconst 1, 1) := by decide +kernel
theorem dL_isRow_130 : decode cL_isRow 130 = .ok (.goto 4, 3) := by decide +kernel
theorem dL_isRow_133 : decode cL_isRow 133 = .ok (.iconst 0, 1) := by decide +kernel
theorem dL_isRow_134 : decode cL_isRow 134 = .ok (.istore 12, 2) := by decide +kernel
theorem dL_isRow_136 : decode cL_isRow 136 = .ok (.iload 9, 2) := by decide +kernel
theorem dL_isRow_138 : decode cL_isRow 138 = .ok (.ifCond .eq 8, 3) := by decide +kernel
theorem dL_isRow_141 : decode cL_isRow 141 = .ok (.iload 10, 2) := by decide +kernel
theorem dL_isRow_143 : decode cL_isRow 143 = .ok (.ifCond .ne 38, 3) := by decide +kernel
theorem dL_isRow_146 : decode cL_isRow 146 = .ok (.aload_n 0, 1) := by decide +kernel
theorem dL_isRow_147 : decode cL_isRow 147 = .ok (.bipush 8, 2) := by decide +kernel
theorem dL_isRow_149 : decode cL_isRow 149 = .ok (.iload 5, 2) := by decide +kernel
theorem dL_isRow_151 : decode cL_isRow 151 = .ok (.iload 6, 2) := by decide +kernel
theorem dL_isRow_153 : decode cL_isRow 153 = .ok (.iload 7, 2) := by decide +kernel
theorem dL_isRow_155 : decode cL_isRow 155 = .ok (.iload 8, 2) := by decide +kernel
theorem dL_isRow_157 : decode cL_isRow 157 = .ok (.invokestatic 99, 3) := by decide +kernel
theorem dL_isRow_160 : decode cL_isRow 160 = .ok (.iload 9, 2) := by decide +kernel
theorem dL_isRow_162 : decode cL_isRow 162 = .ok (.ifCond .eq 8, 3) := by decide +kernel
theorem dL_isRow_165 : decode cL_isRow 165 = .ok (.bipush (-20), 2) := by decide +kernel
theorem dL_isRow_167 : decode cL_isRow 167 = .ok (.goto 5, 3) := by decide +kernel
theorem dL_isRow_170 : decode cL_isRow 170 = .ok (.bipush (-30), 2) := by decide +kernel
theorem dL_isRow_172 : decode cL_isRow 172 = .ok (.if_icmp .ne 7, 3) := by decide +kernel
theorem dL_isRow_175 : decode cL_isRow 175 = .ok (.iconst 1, 1) := by decide +kernel
theorem dL_isRow_176 : decode cL_isRow 176 = .ok (.goto 4, 3) := by decide +kernel
theorem dL_isRow_179 : decode cL_isRow 179 = .ok (.iconst 0, 1) := by decide +kernel
theorem dL_isRow_180 : decode cL_isRow 180 = .ok (.ireturn, 1) := by decide +kernel
theorem dL_isRow_181 : decode cL_isRow 181 = .ok (.iload 11, 2) := by decide +kernel
theorem dL_isRow_183 : decode cL_isRow 183 = .ok (.ifCond .ne 83, 3) := by decide +kernel
theorem dL_isRow_186 : decode cL_isRow 186 = .ok (.aload_n 0, 1) := by decide +kernel
theorem dL_isRow_187 : decode cL_isRow 187 = .ok (.bipush 8, 2) := by decide +kernel
theorem dL_isRow_189 : decode cL_isRow 189 = .ok (.iload 5, 2) := by decide +kernel
theorem dL_isRow_191 : decode cL_isRow 191 = .ok (.iload 6, 2) := by decide +kernel
theorem dL_isRow_193 : decode cL_isRow 193 = .ok (.iload 7, 2) := by decide +kernel
theorem dL_isRow_195 : decode cL_isRow 195 = .ok (.iload 8, 2) := by decide +kernel
theorem dL_isRow_197 : decode cL_isRow 197 = .ok (.invokestatic 99, 3) := by decide +kernel
theorem dL_isRow_200 : decode cL_isRow 200 = .ok (.bipush (-10), 2) := by decide +kernel
theorem dL_isRow_202 : decode cL_isRow 202 = .ok (.if_icmp .ne 62, 3) := by decide +kernel
theorem dL_isRow_205 : decode cL_isRow 205 = .ok (.aload_n 0, 1) := by decide +kernel
theorem dL_isRow_206 : decode cL_isRow 206 = .ok (.bipush 9, 2) := by decide +kernel
theorem dL_isRow_208 : decode cL_isRow 208 = .ok (.iload 5, 2) := by decide +kernel
theorem dL_isRow_210 : decode cL_isRow 210 = .ok (.iload 6, 2) := by decide +kernel
theorem dL_isRow_212 : decode cL_isRow 212 = .ok (.iload 7, 2) := by decide +kernel
theorem dL_isRow_214 : decode cL_isRow 214 = .ok (.iload 7, 2) := by decide +kernel
theorem dL_isRow_216 : decode cL_isRow 216 = .ok (.invokestatic 99, 3) := by decide +kernel
theorem dL_isRow_219 : decode cL_isRow 219 = .ok (.bipush (-10), 2) := by decide +kernel
theorem dL_isRow_221 : decode cL_isRow 221 = .ok (.if_icmp .ne 43, 3) := by decide +kernel
theorem dL_isRow_224 : decode cL_isRow 224 = .ok (.aload_n 0, 1) := by decide +kernel
theorem dL_isRow_225 : decode cL_isRow 225 = .ok (.bipush 10, 2) := by decide +kernel
theorem dL_isRow_227 : decode cL_isRow 227 = .ok (.iload 5, 2) := by decide +kernel
theorem dL_isRow_229 : decode cL_isRow 229 = .ok (.iload 6, 2) := by decide +kernel
theorem dL_isRow_231 : decode cL_isRow 231 = .ok (.iload 7, 2) := by decide +kernel
theorem dL_isRow_233 : decode cL_isRow 233 = .ok (.iconst 0, 1) := by decide +kernel
theorem dL_isRow_234 : decode cL_isRow 234 = .ok (.invokestatic 99, 3) := by decide +kernel
theorem dL_isRow_237 : decode cL_isRow 237 = .ok (.bipush (-10), 2) := by decide +kernel
theorem dL_isRow_239 : decode cL_isRow 239 = .ok (.if_icmp .ne 25, 3) := by decide +kernel
theorem dL_isRow_242 : decode cL_isRow 242 = .ok (.aload_n 0, 1) := by decide +kernel
theorem dL_isRow_243 : decode cL_isRow 243 = .ok (.bipush 11, 2) := by decide +kernel
theorem dL_isRow_245 : decode cL_isRow 245 = .ok (.iload 5, 2) := by decide +kernel
theorem dL_isRow_247 : decode cL_isRow 247 = .ok (.iload 6, 2) := by decide +kernel
theorem dL_isRow_249 : decode cL_isRow 249 = .ok (.iconst 0, 1) := by decide +kernel
theorem dL_isRow_250 : decode cL_isRow 250 = .ok (.ldc 116, 2) := by decide +kernel
theorem dL_isRow_252 : decode cL_isRow 252 = .ok (.invokestatic 99, 3) := by decide +kernel
theorem dL_isRow_255 : decode cL_isRow 255 = .ok (.bipush (-10), 2) := by decide +kernel
theorem dL_isRow_257 : decode cL_isRow 257 = .ok (.if_icmp .ne 7, 3) := by decide +kernel
theorem dL_isRow_260 : decode cL_isRow 260 = .ok (.iconst 1, 1) := by decide +kernel
theorem dL_isRow_261 : decode cL_isRow 261 = .ok (.goto 4, 3) := by decide +kernel
theorem dL_isRow_264 : decode cL_isRow 264 = .ok (.iconst 0, 1) := by decide +kernel
theorem dL_isRow_265 : decode cL_isRow 265 = .ok (.ireturn, 1) := by decide +kernel
theorem dL_isRow_266 : decode cL_isRow 266 = .ok (.aload_n 0, 1) := by decide +kernel
theorem dL_isRow_267 : decode cL_isRow 267 = .ok (.iload 5, 2) := by decide +kernel
theorem dL_isRow_269 : decode cL_isRow 269 = .ok (.iload 6, 2) := by decide +kernel
theorem dL_isRow_271 : decode cL_isRow 271 = .ok (.iconst 0, 1) := by decide +kernel
theorem dL_isRow_272 : decode cL_isRow 272 = .ok (.ldc 116, 2) := by decide +kernel
theorem dL_isRow_274 : decode cL_isRow 274 = .ok (.invokevirtual 57, 3) := by decide +kernel
theorem dL_isRow_277 : decode cL_isRow 277 = .ok (.istore 13, 2) := by decide +kernel
theorem dL_isRow_279 : decode cL_isRow 279 = .ok (.aload_n 0, 1) := by decide +kernel
theorem dL_isRow_280 : decode cL_isRow 280 = .ok (.iload 5, 2) := by decide +kernel
theorem dL_isRow_282 : decode cL_isRow 282 = .ok (.iload 6, 2) := by decide +kernel
theorem dL_isRow_284 : decode cL_isRow 284 = .ok (.iload 7, 2) := by decide +kernel
theorem dL_isRow_286 : decode cL_isRow 286 = .ok (.invokevirtual 53, 3) := by decide +kernel
theorem dL_isRow_289 : decode cL_isRow 289 = .ok (.istore 14, 2) := by decide +kernel
theorem dL_isRow_291 : decode cL_isRow 291 = .ok (.iload 13, 2) := by decide +kernel
theorem dL_isRow_293 : decode cL_isRow 293 = .ok (.ifCond .lt 67, 3) := by decide +kernel
theorem dL_isRow_296 : decode cL_isRow 296 = .ok (.iload 13, 2) := by decide +kernel
theorem dL_isRow_298 : decode cL_isRow 298 = .ok (.bipush 41, 2) := by decide +kernel
theorem dL_isRow_300 : decode cL_isRow 300 = .ok (.if_icmp .ge 60, 3) := by decide +kernel
theorem dL_isRow_303 : decode cL_isRow 303 = .ok (.iload 14, 2) := by decide +kernel
theorem dL_isRow_305 : decode cL_isRow 305 = .ok (.iconst (-1), 1) := by decide +kernel
theorem dL_isRow_306 : decode cL_isRow 306 = .ok (.if_icmp .lt 54, 3) := by decide +kernel
theorem dL_isRow_309 : decode cL_isRow 309 = .ok (.iload 14, 2) := by decide +kernel
theorem dL_isRow_311 : decode cL_isRow 311 = .ok (.sipush 10000, 3) := by decide +kernel
theorem dL_isRow_314 : decode cL_isRow 314 = .ok (.if_icmp .ge 46, 3) := by decide +kernel
theorem dL_isRow_317 : decode cL_isRow 317 = .ok (.aload_n 0, 1) := by decide +kernel
theorem dL_isRow_318 : decode cL_isRow 318 = .ok (.iload 5, 2) := by decide +kernel
theorem dL_isRow_320 : decode cL_isRow 320 = .ok (.iload 6, 2) := by decide +kernel
theorem dL_isRow_322 : decode cL_isRow 322 = .ok (.iload 7, 2) := by decide +kernel
theorem dL_isRow_324 : decode cL_isRow 324 = .ok (.iload 7, 2) := by decide +kernel
theorem dL_isRow_326 : decode cL_isRow 326 = .ok (.invokevirtual 57, 3) := by decide +kernel
theorem dL_isRow_329 : decode cL_isRow 329 = .ok (.iload 14, 2) := by decide +kernel
theorem dL_isRow_331 : decode cL_isRow 331 = .ok (.ifCond .ge 7, 3) := by decide +kernel
theorem dL_isRow_334 : decode cL_isRow 334 = .ok (.iconst 0, 1) := by decide +kernel
theorem dL_isRow_335 : decode cL_isRow 335 = .ok (.goto 4, 3) := by decide +kernel
theorem dL_isRow_338 : decode cL_isRow 338 = .ok (.iconst 1, 1) := by decide +kernel
theorem dL_isRow_339 : decode cL_isRow 339 = .ok (.if_icmp .ne 21, 3) := by decide +kernel
theorem dL_isRow_342 : decode cL_isRow 342 = .ok (.aload_n 0, 1) := by decide +kernel
theorem dL_isRow_343 : decode cL_isRow 343 = .ok (.iload 5, 2) := by decide +kernel
theorem dL_isRow_345 : decode cL_isRow 345 = .ok (.iload 6, 2) := by decide +kernel
theorem dL_isRow_347 : decode cL_isRow 347 = .ok (.ldc 116, 2) := by decide +kernel
theorem dL_isRow_349 : decode cL_isRow 349 = .ok (.iconst 0, 1) := by decide +kernel
theorem dL_isRow_350 : decode cL_isRow 350 = .ok (.invokevirtual 57, 3) := by decide +kernel
theorem dL_isRow_353 : decode cL_isRow 353 = .ok (.ifCond .ne 7, 3) := by decide +kernel
theorem dL_isRow_356 : decode cL_isRow 356 = .ok (.iconst 1, 1) := by decide +kernel
theorem dL_isRow_357 : decode cL_isRow 357 = .ok (.goto 4, 3) := by decide +kernel
theorem dL_isRow_360 : decode cL_isRow 360 = .ok (.iconst 0, 1) := by decide +kernel
theorem dL_isRow_361 : decode cL_isRow 361 = .ok (.istore 15, 2) := by decide +kernel
theorem dL_isRow_363 : decode cL_isRow 363 = .ok (.aload_n 0, 1) := by decide +kernel
theorem dL_isRow_364 : decode cL_isRow 364 = .ok (.bipush 8, 2) := by decide +kernel
theorem dL_isRow_366 : decode cL_isRow 366 = .ok (.iload 5, 2) := by decide +kernel
theorem dL_isRow_368 : decode cL_isRow 368 = .ok (.iload 6, 2) := by decide +kernel
theorem dL_isRow_370 : decode cL_isRow 370 = .ok (.iload 7, 2) := by decide +kernel
theorem dL_isRow_372 : decode cL_isRow 372 = .ok (.iload 8, 2) := by decide +kernel
theorem dL_isRow_374 : decode cL_isRow 374 = .ok (.invokestatic 99, 3) := by decide +kernel
theorem dL_isRow_377 : decode cL_isRow 377 = .ok (.istore 16, 2) := by decide +kernel
theorem dL_isRow_379 : decode cL_isRow 379 = .ok (.iload 12, 2) := by decide +kernel
theorem dL_isRow_381 : decode cL_isRow 381 = .ok (.ifCond .eq 10, 3) := by decide +kernel
theorem dL_isRow_384 : decode cL_isRow 384 = .ok (.iload 16, 2) := by decide +kernel
theorem dL_isRow_386 : decode cL_isRow 386 = .ok (.bipush (-10), 2) := by decide +kernel
theorem dL_isRow_388 : decode cL_isRow 388 = .ok (.if_icmp .ne 74, 3) := by decide +kernel
theorem dL_isRow_391 : decode cL_isRow 391 = .ok (.iload 15, 2) := by decide +kernel
theorem dL_isRow_393 : decode cL_isRow 393 = .ok (.ifCond .eq 67, 3) := by decide +kernel
theorem dL_isRow_396 : decode cL_isRow 396 = .ok (.iload 16, 2) := by decide +kernel
theorem dL_isRow_398 : decode cL_isRow 398 = .ok (.bipush (-10), 2) := by decide +kernel
theorem dL_isRow_400 : decode cL_isRow 400 = .ok (.if_icmp .ne 60, 3) := by decide +kernel
theorem dL_isRow_403 : decode cL_isRow 403 = .ok (.aload_n 0, 1) := by decide +kernel
theorem dL_isRow_404 : decode cL_isRow 404 = .ok (.iload 5, 2) := by decide +kernel
theorem dL_isRow_406 : decode cL_isRow 406 = .ok (.iload 6, 2) := by decide +kernel
theorem dL_isRow_408 : decode cL_isRow 408 = .ok (.iload 7, 2) := by decide +kernel
theorem dL_isRow_410 : decode cL_isRow 410 = .ok (.invokevirtual 53, 3) := by decide +kernel
theorem dL_isRow_413 : decode cL_isRow 413 = .ok (.iload 14, 2) := by decide +kernel
theorem dL_isRow_415 : decode cL_isRow 415 = .ok (.if_icmp .ne 45, 3) := by decide +kernel
theorem dL_isRow_418 : decode cL_isRow 418 = .ok (.aload_n 0, 1) := by decide +kernel
theorem dL_isRow_419 : decode cL_isRow 419 = .ok (.iload 5, 2) := by decide +kernel
theorem dL_isRow_421 : decode cL_isRow 421 = .ok (.iload 6, 2) := by decide +kernel
theorem dL_isRow_423 : decode cL_isRow 423 = .ok (.iconst 0, 1) := by decide +kernel
theorem dL_isRow_424 : decode cL_isRow 424 = .ok (.ldc 116, 2) := by decide +kernel
theorem dL_isRow_426 : decode cL_isRow 426 = .ok (.invokevirtual 57, 3) := by decide +kernel
theorem dL_isRow_429 : decode cL_isRow 429 = .ok (.iload 13, 2) := by decide +kernel
theorem dL_isRow_431 : decode cL_isRow 431 = .ok (.if_icmp .ne 29, 3) := by decide +kernel
theorem dL_isRow_434 : decode cL_isRow 434 = .ok (.iload 12, 2) := by decide +kernel
theorem dL_isRow_436 : decode cL_isRow 436 = .ok (.ifCond .ne 20, 3) := by decide +kernel
theorem dL_isRow_439 : decode cL_isRow 439 = .ok (.aload_n 0, 1) := by decide +kernel
theorem dL_isRow_440 : decode cL_isRow 440 = .ok (.bipush 9, 2) := by decide +kernel
theorem dL_isRow_442 : decode cL_isRow 442 = .ok (.iload 5, 2) := by decide +kernel
theorem dL_isRow_444 : decode cL_isRow 444 = .ok (.iload 6, 2) := by decide +kernel
theorem dL_isRow_446 : decode cL_isRow 446 = .ok (.iconst 0, 1) := by decide +kernel
theorem dL_isRow_447 : decode cL_isRow 447 = .ok (.iconst 0, 1) := by decide +kernel
theorem dL_isRow_448 : decode cL_isRow 448 = .ok (.invokestatic 99, 3) := by decide +kernel
theorem dL_isRow_451 : decode cL_isRow 451 = .ok (.bipush (-10), 2) := by decide +kernel
theorem dL_isRow_453 : decode cL_isRow 453 = .ok (.if_icmp .ne 7, 3) := by decide +kernel
theorem dL_isRow_456 : decode cL_isRow 456 = .ok (.iconst 1, 1) := by decide +kernel
theorem dL_isRow_457 : decode cL_isRow 457 = .ok (.goto 4, 3) := by decide +kernel
theorem dL_isRow_460 : decode cL_isRow 460 = .ok (.iconst 0, 1) := by decide +kernel
theorem dL_isRow_461 : decode cL_isRow 461 = .ok (.ireturn, 1) := by decide +kernel
theorem dL_isRow_462 : decode cL_isRow 462 = .ok (.iload 15, 2) := by decide +kernel
theorem dL_isRow_464 : decode cL_isRow 464 = .ok (.ifCond .eq 90, 3) := by decide +kernel
theorem dL_isRow_467 : decode cL_isRow 467 = .ok (.iload 16, 2) := by decide +kernel
theorem dL_isRow_469 : decode cL_isRow 469 = .ok (.iload 14, 2) := by decide +kernel
theorem dL_isRow_471 : decode cL_isRow 471 = .ok (.ifCond .ge 7, 3) := by decide +kernel
theorem dL_isRow_474 : decode cL_isRow 474 = .ok (.iconst 1, 1) := by decide +kernel
theorem dL_isRow_475 : decode cL_isRow 475 = .ok (.goto 4, 3) := by decide +kernel
theorem dL_isRow_478 : decode cL_isRow 478 = .ok (.iconst 0, 1) := by decide +kernel
theorem dL_isRow_479 : decode cL_isRow 479 = .ok (.if_icmp .ne 75, 3) := by decide +kernel
theorem dL_isRow_482 : decode cL_isRow 482 = .ok (.aload_n 0, 1) := by decide +kernel
theorem dL_isRow_483 : decode cL_isRow 483 = .ok (.iload 5, 2) := by decide +kernel
theorem dL_isRow_485 : decode cL_isRow 485 = .ok (.iload 6, 2) := by decide +kernel
theorem dL_isRow_487 : decode cL_isRow 487 = .ok (.iload 7, 2) := by decide +kernel
theorem dL_isRow_489 : decode cL_isRow 489 = .ok (.invokevirtual 53, 3) := by decide +kernel
theorem dL_isRow_492 : decode cL_isRow 492 = .ok (.iload 8, 2) := by decide +kernel
theorem dL_isRow_494 : decode cL_isRow 494 = .ok (.if_icmp .ne 60, 3) := by decide +kernel
theorem dL_isRow_497 : decode cL_isRow 497 = .ok (.aload_n 0, 1) := by decide +kernel
theorem dL_isRow_498 : decode cL_isRow 498 = .ok (.iload 5, 2) := by decide +kernel
theorem dL_isRow_500 : decode cL_isRow 500 = .ok (.iload 6, 2) := by decide +kernel
theorem dL_isRow_502 : decode cL_isRow 502 = .ok (.iconst 0, 1) := by decide +kernel
theorem dL_isRow_503 : decode cL_isRow 503 = .ok (.ldc 116, 2) := by decide +kernel
theorem dL_isRow_505 : decode cL_isRow 505 = .ok (.invokevirtual 57, 3) := by decide +kernel
theorem dL_isRow_508 : decode cL_isRow 508 = .ok (.iload 13, 2) := by decide +kernel
theorem dL_isRow_510 : decode cL_isRow 510 = .ok (.iload 16, 2) := by decide +kernel
theorem dL_isRow_512 : decode cL_isRow 512 = .ok (.iadd, 1) := by decide +kernel
theorem dL_isRow_513 : decode cL_isRow 513 = .ok (.if_icmp .ne 41, 3) := by decide +kernel
theorem dL_isRow_516 : decode cL_isRow 516 = .ok (.aload_n 0, 1) := by decide +kernel
theorem dL_isRow_517 : decode cL_isRow 517 = .ok (.iload 5, 2) := by decide +kernel
theorem dL_isRow_519 : decode cL_isRow 519 = .ok (.iload 6, 2) := by decide +kernel
theorem dL_isRow_521 : decode cL_isRow 521 = .ok (.iconst 0, 1) := by decide +kernel
theorem dL_isRow_522 : decode cL_isRow 522 = .ok (.iload 7, 2) := by decide +kernel
theorem dL_isRow_524 : decode cL_isRow 524 = .ok (.invokevirtual 57, 3) := by decide +kernel
theorem dL_isRow_527 : decode cL_isRow 527 = .ok (.aload_n 0, 1) := by decide +kernel
theorem dL_isRow_528 : decode cL_isRow 528 = .ok (.iload 5, 2) := by decide +kernel
theorem dL_isRow_530 : decode cL_isRow 530 = .ok (.iload 6, 2) := by decide +kernel
theorem dL_isRow_532 : decode cL_isRow 532 = .ok (.iload 7, 2) := by decide +kernel
theorem dL_isRow_534 : decode cL_isRow 534 = .ok (.ldc 116, 2) := by decide +kernel
theorem dL_isRow_536 : decode cL_isRow 536 = .ok (.invokevirtual 57, 3) := by decide +kernel
theorem dL_isRow_539 : decode cL_isRow 539 = .ok (.iadd, 1) := by decide +kernel
theorem dL_isRow_540 : decode cL_isRow 540 = .ok (.iload 13, 2) := by decide +kernel
theorem dL_isRow_542 : decode cL_isRow 542 = .ok (.iload 16, 2) := by decide +kernel
theorem dL_isRow_544 : decode cL_isRow 544 = .ok (.iadd, 1) := by decide +kernel
theorem dL_isRow_545 : decode cL_isRow 545 = .ok (.iconst 1, 1) := by decide +kernel
theorem dL_isRow_546 : decode cL_isRow 546 = .ok (.iadd, 1) := by decide +kernel
theorem dL_isRow_547 : decode cL_isRow 547 = .ok (.if_icmp .ne 7, 3) := by decide +kernel
theorem dL_isRow_550 : decode cL_isRow 550 = .ok (.iconst 1, 1) := by decide +kernel
theorem dL_isRow_551 : decode cL_isRow 551 = .ok (.goto 4, 3) := by decide +kernel
theorem dL_isRow_554 : decode cL_isRow 554 = .ok (.iconst 0, 1) := by decide +kernel
theorem dL_isRow_555 : decode cL_isRow 555 = .ok (.ireturn, 1) := by decide +kernel
theorem dL_isRemoved_0 : decode cL_isRemoved 0 = .ok (.iload 5, 2) := by decide +kernel
theorem dL_isRemoved_2 : decode cL_isRemoved 2 = .ok (.aload_n 3, 1) := by decide +kernel
theorem dL_isRemoved_3 : decode cL_isRemoved 3 = .ok (.bipush 14, 2) := by decide +kernel
theorem dL_isRemoved_5 : decode cL_isRemoved 5 = .ok (.iaload, 1) := by decide +kernel
theorem dL_isRemoved_6 : decode cL_isRemoved 6 = .ok (.if_icmp .ge 65, 3) := by decide +kernel
theorem dL_isRemoved_9 : decode cL_isRemoved 9 = .ok (.iload 6, 2) := by decide +kernel
theorem dL_isRemoved_11 : decode cL_isRemoved 11 = .ok (.iconst 3, 1) := by decide +kernel
theorem dL_isRemoved_12 : decode cL_isRemoved 12 = .ok (.if_icmp .ge 59, 3) := by decide +kernel
theorem dL_isRemoved_15 : decode cL_isRemoved 15 = .ok (.aload 4, 2) := by decide +kernel
theorem dL_isRemoved_17 : decode cL_isRemoved 17 = .ok (.iload 6, 2) := by decide +kernel
theorem dL_isRemoved_19 : decode cL_isRemoved 19 = .ok (.iconst 3, 1) := by decide +kernel
theorem dL_isRemoved_20 : decode cL_isRemoved 20 = .ok (.if_icmp .ge 8, 3) := by decide +kernel
theorem dL_isRemoved_23 : decode cL_isRemoved 23 = .ok (.iload 6, 2) := by decide +kernel
theorem dL_isRemoved_25 : decode cL_isRemoved 25 = .ok (.goto 4, 3) := by decide +kernel
theorem dL_isRemoved_28 : decode cL_isRemoved 28 = .ok (.iconst 0, 1) := by decide +kernel
theorem dL_isRemoved_29 : decode cL_isRemoved 29 = .ok (.iaload, 1) := by decide +kernel
theorem dL_isRemoved_30 : decode cL_isRemoved 30 = .ok (.iconst 1, 1) := by decide +kernel
theorem dL_isRemoved_31 : decode cL_isRemoved 31 = .ok (.if_icmp .ne 40, 3) := by decide +kernel
theorem dL_isRemoved_34 : decode cL_isRemoved 34 = .ok (.aload_n 1, 1) := by decide +kernel
theorem dL_isRemoved_35 : decode cL_isRemoved 35 = .ok (.iload 5, 2) := by decide +kernel
theorem dL_isRemoved_37 : decode cL_isRemoved 37 = .ok (.iaload, 1) := by decide +kernel
theorem dL_isRemoved_38 : decode cL_isRemoved 38 = .ok (.iconst 1, 1) := by decide +kernel
theorem dL_isRemoved_39 : decode cL_isRemoved 39 = .ok (.if_icmp .ne 32, 3) := by decide +kernel
theorem dL_isRemoved_42 : decode cL_isRemoved 42 = .ok (.aload_n 2, 1) := by decide +kernel
theorem dL_isRemoved_43 : decode cL_isRemoved 43 = .ok (.iload 5, 2) := by decide +kernel
theorem dL_isRemoved_45 : decode cL_isRemoved 45 = .ok (.iaload, 1) := by decide +kernel
theorem dL_isRemoved_46 : decode cL_isRemoved 46 = .ok (.iload 6, 2) := by decide +kernel
theorem dL_isRemoved_48 : decode cL_isRemoved 48 = .ok (.ishr, 1) := by decide +kernel
theorem dL_isRemoved_49 : decode cL_isRemoved 49 = .ok (.iconst 1, 1) := by decide +kernel
theorem dL_isRemoved_50 : decode cL_isRemoved 50 = .ok (.iand, 1) := by decide +kernel
theorem dL_isRemoved_51 : decode cL_isRemoved 51 = .ok (.iconst 1, 1) := by decide +kernel
theorem dL_isRemoved_52 : decode cL_isRemoved 52 = .ok (.if_icmp .ne 19, 3) := by decide +kernel
theorem dL_isRemoved_55 : decode cL_isRemoved 55 = .ok (.aload_n 2, 1) := by decide +kernel
theorem dL_isRemoved_56 : decode cL_isRemoved 56 = .ok (.iload 5, 2) := by decide +kernel
theorem dL_isRemoved_58 : decode cL_isRemoved 58 = .ok (.iaload, 1) := by decide +kernel
theorem dL_isRemoved_59 : decode cL_isRemoved 59 = .ok (.bipush 8, 2) := by decide +kernel
theorem dL_isRemoved_61 : decode cL_isRemoved 61 = .ok (.iand, 1) := by decide +kernel
theorem dL_isRemoved_62 : decode cL_isRemoved 62 = .ok (.bipush 8, 2) := by decide +kernel
theorem dL_isRemoved_64 : decode cL_isRemoved 64 = .ok (.if_icmp .ne 7, 3) := by decide +kernel
theorem dL_isRemoved_67 : decode cL_isRemoved 67 = .ok (.iconst 1, 1) := by decide +kernel
theorem dL_isRemoved_68 : decode cL_isRemoved 68 = .ok (.goto 4, 3) := by decide +kernel
theorem dL_isRemoved_71 : decode cL_isRemoved 71 = .ok (.iconst 0, 1) := by decide +kernel
theorem dL_isRemoved_72 : decode cL_isRemoved 72 = .ok (.istore 9, 2) := by decide +kernel
theorem dL_isRemoved_74 : decode cL_isRemoved 74 = .ok (.iload 9, 2) := by decide +kernel
theorem dL_isRemoved_76 : decode cL_isRemoved 76 = .ok (.ifCond .ne 26, 3) := by decide +kernel
theorem dL_isRemoved_79 : decode cL_isRemoved 79 = .ok (.aload_n 0, 1) := by decide +kernel
theorem dL_isRemoved_80 : decode cL_isRemoved 80 = .ok (.bipush 9, 2) := by decide +kernel
theorem dL_isRemoved_82 : decode cL_isRemoved 82 = .ok (.iload 5, 2) := by decide +kernel
theorem dL_isRemoved_84 : decode cL_isRemoved 84 = .ok (.iload 6, 2) := by decide +kernel
theorem dL_isRemoved_86 : decode cL_isRemoved 86 = .ok (.iload 7, 2) := by decide +kernel
theorem dL_isRemoved_88 : decode cL_isRemoved 88 = .ok (.iload 8, 2) := by decide +kernel
theorem dL_isRemoved_90 : decode cL_isRemoved 90 = .ok (.invokestatic 99, 3) := by decide +kernel
theorem dL_isRemoved_93 : decode cL_isRemoved 93 = .ok (.ifCond .ge 7, 3) := by decide +kernel
theorem dL_isRemoved_96 : decode cL_isRemoved 96 = .ok (.iconst 1, 1) := by decide +kernel
theorem dL_isRemoved_97 : decode cL_isRemoved 97 = .ok (.goto 4, 3) := by decide +kernel
theorem dL_isRemoved_100 : decode cL_isRemoved 100 = .ok (.iconst 0, 1) := by decide +kernel
theorem dL_isRemoved_101 : decode cL_isRemoved 101 = .ok (.ireturn, 1) := by decide +kernel
theorem dL_isRemoved_102 : decode cL_isRemoved 102 = .ok (.aload_n 0, 1) := by decide +kernel
theorem dL_isRemoved_103 : decode cL_isRemoved 103 = .ok (.iload 5, 2) := by decide +kernel
theorem dL_isRemoved_105 : decode cL_isRemoved 105 = .ok (.iload 6, 2) := by decide +kernel
theorem dL_isRemoved_107 : decode cL_isRemoved 107 = .ok (.iconst 0, 1) := by decide +kernel
theorem dL_isRemoved_108 : decode cL_isRemoved 108 = .ok (.ldc 116, 2) := by decide +kernel
theorem dL_isRemoved_110 : decode cL_isRemoved 110 = .ok (.invokevirtual 57, 3) := by decide +kernel
theorem dL_isRemoved_113 : decode cL_isRemoved 113 = .ok (.istore 10, 2) := by decide +kernel
theorem dL_isRemoved_115 : decode cL_isRemoved 115 = .ok (.aload_n 0, 1) := by decide +kernel
theorem dL_isRemoved_116 : decode cL_isRemoved 116 = .ok (.iload 5, 2) := by decide +kernel
theorem dL_isRemoved_118 : decode cL_isRemoved 118 = .ok (.iload 6, 2) := by decide +kernel
theorem dL_isRemoved_120 : decode cL_isRemoved 120 = .ok (.iload 7, 2) := by decide +kernel
theorem dL_isRemoved_122 : decode cL_isRemoved 122 = .ok (.iload 8, 2) := by decide +kernel
theorem dL_isRemoved_124 : decode cL_isRemoved 124 = .ok (.invokevirtual 57, 3) := by decide +kernel
theorem dL_isRemoved_127 : decode cL_isRemoved 127 = .ok (.istore 11, 2) := by decide +kernel
theorem dL_isRemoved_129 : decode cL_isRemoved 129 = .ok (.aload_n 0, 1) := by decide +kernel
theorem dL_isRemoved_130 : decode cL_isRemoved 130 = .ok (.iload 5, 2) := by decide +kernel
theorem dL_isRemoved_132 : decode cL_isRemoved 132 = .ok (.iload 6, 2) := by decide +kernel
theorem dL_isRemoved_134 : decode cL_isRemoved 134 = .ok (.iload 7, 2) := by decide +kernel
theorem dL_isRemoved_136 : decode cL_isRemoved 136 = .ok (.iload 8, 2) := by decide +kernel
theorem dL_isRemoved_138 : decode cL_isRemoved 138 = .ok (.invokevirtual 49, 3) := by decide +kernel
theorem dL_isRemoved_141 : decode cL_isRemoved 141 = .ok (.iload 11, 2) := by decide +kernel
theorem dL_isRemoved_143 : decode cL_isRemoved 143 = .ok (.if_icmp .ne 41, 3) := by decide +kernel
theorem dL_isRemoved_146 : decode cL_isRemoved 146 = .ok (.aload_n 0, 1) := by decide +kernel
theorem dL_isRemoved_147 : decode cL_isRemoved 147 = .ok (.iload 5, 2) := by decide +kernel
theorem dL_isRemoved_149 : decode cL_isRemoved 149 = .ok (.iload 6, 2) := by decide +kernel
theorem dL_isRemoved_151 : decode cL_isRemoved 151 = .ok (.iconst 0, 1) := by decide +kernel
theorem dL_isRemoved_152 : decode cL_isRemoved 152 = .ok (.ldc 116, 2) := by decide +kernel
theorem dL_isRemoved_154 : decode cL_isRemoved 154 = .ok (.invokevirtual 57, 3) := by decide +kernel
theorem dL_isRemoved_157 : decode cL_isRemoved 157 = .ok (.iload 10, 2) := by decide +kernel
theorem dL_isRemoved_159 : decode cL_isRemoved 159 = .ok (.iload 11, 2) := by decide +kernel
theorem dL_isRemoved_161 : decode cL_isRemoved 161 = .ok (.isub, 1) := by decide +kernel
theorem dL_isRemoved_162 : decode cL_isRemoved 162 = .ok (.if_icmp .ne 22, 3) := by decide +kernel
theorem dL_isRemoved_165 : decode cL_isRemoved 165 = .ok (.aload_n 0, 1) := by decide +kernel
theorem dL_isRemoved_166 : decode cL_isRemoved 166 = .ok (.iload 5, 2) := by decide +kernel
theorem dL_isRemoved_168 : decode cL_isRemoved 168 = .ok (.iload 6, 2) := by decide +kernel
theorem dL_isRemoved_170 : decode cL_isRemoved 170 = .ok (.iload 7, 2) := by decide +kernel
theorem dL_isRemoved_172 : decode cL_isRemoved 172 = .ok (.iload 8, 2) := by decide +kernel
theorem dL_isRemoved_174 : decode cL_isRemoved 174 = .ok (.invokevirtual 57, 3) := by decide +kernel
theorem dL_isRemoved_177 : decode cL_isRemoved 177 = .ok (.ifCond .ne 7, 3) := by decide +kernel
theorem dL_isRemoved_180 : decode cL_isRemoved 180 = .ok (.iconst 1, 1) := by decide +kernel
theorem dL_isRemoved_181 : decode cL_isRemoved 181 = .ok (.goto 4, 3) := by decide +kernel
theorem dL_isRemoved_184 : decode cL_isRemoved 184 = .ok (.iconst 0, 1) := by decide +kernel
theorem dL_isRemoved_185 : decode cL_isRemoved 185 = .ok (.ireturn, 1) := by decide +kernel
theorem dL_isDone_0 : decode cL_isDone 0 = .ok (.aload_n 1, 1) := by decide +kernel
theorem dL_isDone_1 : decode cL_isDone 1 = .ok (.iload_n 2, 1) := by decide +kernel
theorem dL_isDone_2 : decode cL_isDone 2 = .ok (.bipush 40, 2) := by decide +kernel
theorem dL_isDone_4 : decode cL_isDone 4 = .ok (.invokestatic 117, 3) := by decide +kernel
theorem dL_isDone_7 : decode cL_isDone 7 = .ok (.istore 7, 2) := by decide +kernel
theorem dL_isDone_9 : decode cL_isDone 9 = .ok (.aload_n 1, 1) := by decide +kernel
theorem dL_isDone_10 : decode cL_isDone 10 = .ok (.iload_n 2, 1) := by decide +kernel
theorem dL_isDone_11 : decode cL_isDone 11 = .ok (.iconst 1, 1) := by decide +kernel
theorem dL_isDone_12 : decode cL_isDone 12 = .ok (.iadd, 1) := by decide +kernel
theorem dL_isDone_13 : decode cL_isDone 13 = .ok (.sipush 6000, 3) := by decide +kernel
theorem dL_isDone_16 : decode cL_isDone 16 = .ok (.invokestatic 117, 3) := by decide +kernel
theorem dL_isDone_19 : decode cL_isDone 19 = .ok (.istore 8, 2) := by decide +kernel
theorem dL_isDone_21 : decode cL_isDone 21 = .ok (.aload_n 1, 1) := by decide +kernel
theorem dL_isDone_22 : decode cL_isDone 22 = .ok (.iload_n 2, 1) := by decide +kernel
theorem dL_isDone_23 : decode cL_isDone 23 = .ok (.iconst 2, 1) := by decide +kernel
theorem dL_isDone_24 : decode cL_isDone 24 = .ok (.iadd, 1) := by decide +kernel
theorem dL_isDone_25 : decode cL_isDone 25 = .ok (.sipush 7000, 3) := by decide +kernel
theorem dL_isDone_28 : decode cL_isDone 28 = .ok (.invokestatic 117, 3) := by decide +kernel
theorem dL_isDone_31 : decode cL_isDone 31 = .ok (.istore 9, 2) := by decide +kernel
theorem dL_isDone_33 : decode cL_isDone 33 = .ok (.aload_n 1, 1) := by decide +kernel
theorem dL_isDone_34 : decode cL_isDone 34 = .ok (.iload_n 2, 1) := by decide +kernel
theorem dL_isDone_35 : decode cL_isDone 35 = .ok (.iconst 3, 1) := by decide +kernel
theorem dL_isDone_36 : decode cL_isDone 36 = .ok (.iadd, 1) := by decide +kernel
theorem dL_isDone_37 : decode cL_isDone 37 = .ok (.sipush 8000, 3) := by decide +kernel
theorem dL_isDone_40 : decode cL_isDone 40 = .ok (.invokestatic 117, 3) := by decide +kernel
theorem dL_isDone_43 : decode cL_isDone 43 = .ok (.istore 10, 2) := by decide +kernel
theorem dL_isDone_45 : decode cL_isDone 45 = .ok (.iload 9, 2) := by decide +kernel
theorem dL_isDone_47 : decode cL_isDone 47 = .ok (.iconst 3, 1) := by decide +kernel
theorem dL_isDone_48 : decode cL_isDone 48 = .ok (.irem, 1) := by decide +kernel
theorem dL_isDone_49 : decode cL_isDone 49 = .ok (.ifCond .ne 18, 3) := by decide +kernel
theorem dL_isDone_52 : decode cL_isDone 52 = .ok (.iload 9, 2) := by decide +kernel
theorem dL_isDone_54 : decode cL_isDone 54 = .ok (.iconst 3, 1) := by decide +kernel
theorem dL_isDone_55 : decode cL_isDone 55 = .ok (.idiv, 1) := by decide +kernel
theorem dL_isDone_56 : decode cL_isDone 56 = .ok (.aload 5, 2) := by decide +kernel
theorem dL_isDone_58 : decode cL_isDone 58 = .ok (.bipush 14, 2) := by decide +kernel
theorem dL_isDone_60 : decode cL_isDone 60 = .ok (.iaload, 1) := by decide +kernel
theorem dL_isDone_61 : decode cL_isDone 61 = .ok (.iconst 1, 1) := by decide +kernel
theorem dL_isDone_62 : decode cL_isDone 62 = .ok (.iadd, 1) := by decide +kernel
theorem dL_isDone_63 : decode cL_isDone 63 = .ok (.irem, 1) := by decide +kernel
theorem dL_isDone_64 : decode cL_isDone 64 = .ok (.goto 38, 3) := by decide +kernel
theorem dL_isDone_67 : decode cL_isDone 67 = .ok (.aload 5, 2) := by decide +kernel
theorem dL_isDone_69 : decode cL_isDone 69 = .ok (.bipush 13, 2) := by decide +kernel
theorem dL_isDone_71 : decode cL_isDone 71 = .ok (.iaload, 1) := by decide +kernel
theorem dL_isDone_72 : decode cL_isDone 72 = .ok (.ifCond .lt 11, 3) := by decide +kernel
theorem dL_isDone_75 : decode cL_isDone 75 = .ok (.aload 5, 2) := by decide +kernel
theorem dL_isDone_77 : decode cL_isDone 77 = .ok (.bipush 13, 2) := by decide +kernel
theorem dL_isDone_79 : decode cL_isDone 79 = .ok (.iaload, 1) := by decide +kernel
theorem dL_isDone_80 : decode cL_isDone 80 = .ok (.goto 22, 3) := by decide +kernel
theorem dL_isDone_83 : decode cL_isDone 83 = .ok (.aload 5, 2) := by decide +kernel
theorem dL_isDone_85 : decode cL_isDone 85 = .ok (.bipush 14, 2) := by decide +kernel
theorem dL_isDone_87 : decode cL_isDone 87 = .ok (.iaload, 1) := by decide +kernel
theorem dL_isDone_88 : decode cL_isDone 88 = .ok (.ifCond .ne 7, 3) := by decide +kernel
theorem dL_isDone_91 : decode cL_isDone 91 = .ok (.iconst 0, 1) := by decide +kernel
theorem dL_isDone_92 : decode cL_isDone 92 = .ok (.goto 10, 3) := by decide +kernel
theorem dL_isDone_95 : decode cL_isDone 95 = .ok (.aload 5, 2) := by decide +kernel
theorem dL_isDone_97 : decode cL_isDone 97 = .ok (.bipush 14, 2) := by decide +kernel
theorem dL_isDone_99 : decode cL_isDone 99 = .ok (.iaload, 1) := by decide +kernel
theorem dL_isDone_100 : decode cL_isDone 100 = .ok (.iconst 1, 1) := by decide +kernel
theorem dL_isDone_101 : decode cL_isDone 101 = .ok (.isub, 1) := by decide +kernel
theorem dL_isDone_102 : decode cL_isDone 102 = .ok (.istore 11, 2) := by decide +kernel
theorem dL_isDone_104 : decode cL_isDone 104 = .ok (.iload 7, 2) := by decide +kernel
theorem dL_isDone_106 : decode cL_isDone 106 = .ok (.bipush 6, 2) := by decide +kernel
theorem dL_isDone_108 : decode cL_isDone 108 = .ok (.if_icmp .ge 83, 3) := by decide +kernel
theorem dL_isDone_111 : decode cL_isDone 111 = .ok (.aload_n 0, 1) := by decide +kernel
theorem dL_isDone_112 : decode cL_isDone 112 = .ok (.aload_n 3, 1) := by decide +kernel
theorem dL_isDone_113 : decode cL_isDone 113 = .ok (.aload 4, 2) := by decide +kernel
theorem dL_isDone_115 : decode cL_isDone 115 = .ok (.aload 5, 2) := by decide +kernel
theorem dL_isDone_117 : decode cL_isDone 117 = .ok (.aload 6, 2) := by decide +kernel
theorem dL_isDone_119 : decode cL_isDone 119 = .ok (.iload 8, 2) := by decide +kernel
theorem dL_isDone_121 : decode cL_isDone 121 = .ok (.bipush 11, 2) := by decide +kernel
theorem dL_isDone_123 : decode cL_isDone 123 = .ok (.irem, 1) := by decide +kernel
theorem dL_isDone_124 : decode cL_isDone 124 = .ok (.ifCond .ne 7, 3) := by decide +kernel
theorem dL_isDone_127 : decode cL_isDone 127 = .ok (.iconst 4, 1) := by decide +kernel
theorem dL_isDone_128 : decode cL_isDone 128 = .ok (.goto 7, 3) := by decide +kernel
theorem dL_isDone_131 : decode cL_isDone 131 = .ok (.iload 8, 2) := by decide +kernel
theorem dL_isDone_133 : decode cL_isDone 133 = .ok (.iconst 4, 1) := by decide +kernel
theorem dL_isDone_134 : decode cL_isDone 134 = .ok (.irem, 1) := by decide +kernel
theorem dL_isDone_135 : decode cL_isDone 135 = .ok (.iload 9, 2) := by decide +kernel
theorem dL_isDone_137 : decode cL_isDone 137 = .ok (.bipush 25, 2) := by decide +kernel
theorem dL_isDone_139 : decode cL_isDone 139 = .ok (.irem, 1) := by decide +kernel
theorem dL_isDone_140 : decode cL_isDone 140 = .ok (.ifCond .ne 8, 3) := by decide +kernel
theorem dL_isDone_143 : decode cL_isDone 143 = .ok (.bipush 101, 2) := by decide +kernel
theorem dL_isDone_145 : decode cL_isDone 145 = .ok (.goto 42, 3) := by decide +kernel
theorem dL_isDone_148 : decode cL_isDone 148 = .ok (.iload 10, 2) := by decide +kernel
theorem dL_isDone_150 : decode cL_isDone 150 = .ok (.iconst 3, 1) := by decide +kernel
theorem dL_isDone_151 : decode cL_isDone 151 = .ok (.irem, 1) := by decide +kernel
theorem dL_isDone_152 : decode cL_isDone 152 = .ok (.ifCond .le 30, 3) := by decide +kernel
theorem dL_isDone_155 : decode cL_isDone 155 = .ok (.aload 5, 2) := by decide +kernel
theorem dL_isDone_157 : decode cL_isDone 157 = .ok (.bipush 12, 2) := by decide +kernel
theorem dL_isDone_159 : decode cL_isDone 159 = .ok (.iaload, 1) := by decide +kernel
theorem dL_isDone_160 : decode cL_isDone 160 = .ok (.iload 10, 2) := by decide +kernel
theorem dL_isDone_162 : decode cL_isDone 162 = .ok (.iconst 3, 1) := by decide +kernel
theorem dL_isDone_163 : decode cL_isDone 163 = .ok (.irem, 1) := by decide +kernel
theorem dL_isDone_164 : decode cL_isDone 164 = .ok (.iadd, 1) := by decide +kernel
theorem dL_isDone_165 : decode cL_isDone 165 = .ok (.aload 5, 2) := by decide +kernel
theorem dL_isDone_167 : decode cL_isDone 167 = .ok (.bipush 12, 2) := by decide +kernel
theorem dL_isDone_169 : decode cL_isDone 169 = .ok (.iaload, 1) := by decide +kernel
theorem dL_isDone_170 : decode cL_isDone 170 = .ok (.ifCond .ne 7, 3) := by decide +kernel
theorem dL_isDone_173 : decode cL_isDone 173 = .ok (.iconst 0, 1) := by decide +kernel
theorem dL_isDone_174 : decode cL_isDone 174 = .ok (.goto 4, 3) := by decide +kernel
theorem dL_isDone_177 : decode cL_isDone 177 = .ok (.iconst 1, 1) := by decide +kernel
theorem dL_isDone_178 : decode cL_isDone 178 = .ok (.isub, 1) := by decide +kernel
theorem dL_isDone_179 : decode cL_isDone 179 = .ok (.goto 8, 3) := by decide +kernel
theorem dL_isDone_182 : decode cL_isDone 182 = .ok (.iload 9, 2) := by decide +kernel
theorem dL_isDone_184 : decode cL_isDone 184 = .ok (.bipush 9, 2) := by decide +kernel
theorem dL_isDone_186 : decode cL_isDone 186 = .ok (.irem, 1) := by decide +kernel
theorem dL_isDone_187 : decode cL_isDone 187 = .ok (.invokestatic 121, 3) := by decide +kernel
theorem dL_isDone_190 : decode cL_isDone 190 = .ok (.ireturn, 1) := by decide +kernel
theorem dL_isDone_191 : decode cL_isDone 191 = .ok (.iload 7, 2) := by decide +kernel
theorem dL_isDone_193 : decode cL_isDone 193 = .ok (.bipush 9, 2) := by decide +kernel
theorem dL_isDone_195 : decode cL_isDone 195 = .ok (.if_icmp .ge 31, 3) := by decide +kernel
theorem dL_isDone_198 : decode cL_isDone 198 = .ok (.aload_n 0, 1) := by decide +kernel
theorem dL_isDone_199 : decode cL_isDone 199 = .ok (.aload_n 3, 1) := by decide +kernel
theorem dL_isDone_200 : decode cL_isDone 200 = .ok (.aload 4, 2) := by decide +kernel
theorem dL_isDone_202 : decode cL_isDone 202 = .ok (.aload 5, 2) := by decide +kernel
theorem dL_isDone_204 : decode cL_isDone 204 = .ok (.aload 6, 2) := by decide +kernel
theorem dL_isDone_206 : decode cL_isDone 206 = .ok (.iload 8, 2) := by decide +kernel
theorem dL_isDone_208 : decode cL_isDone 208 = .ok (.bipush 11, 2) := by decide +kernel
theorem dL_isDone_210 : decode cL_isDone 210 = .ok (.irem, 1) := by decide +kernel
theorem dL_isDone_211 : decode cL_isDone 211 = .ok (.ifCond .ne 7, 3) := by decide +kernel
theorem dL_isDone_214 : decode cL_isDone 214 = .ok (.iconst 4, 1) := by decide +kernel
theorem dL_isDone_215 : decode cL_isDone 215 = .ok (.goto 7, 3) := by decide +kernel
theorem dL_isDone_218 : decode cL_isDone 218 = .ok (.iload 8, 2) := by decide +kernel
theorem dL_isDone_220 : decode cL_isDone 220 = .ok (.iconst 4, 1) := by decide +kernel
theorem dL_isDone_221 : decode cL_isDone 221 = .ok (.irem, 1) := by decide +kernel
theorem dL_isDone_222 : decode cL_isDone 222 = .ok (.invokestatic 125, 3) := by decide +kernel
theorem dL_isDone_225 : decode cL_isDone 225 = .ok (.ireturn, 1) := by decide +kernel
theorem dL_isDone_226 : decode cL_isDone 226 = .ok (.iload 7, 2) := by decide +kernel
theorem dL_isDone_228 : decode cL_isDone 228 = .ok (.bipush 15, 2) := by decide +kernel
theorem dL_isDone_230 : decode cL_isDone 230 = .ok (.if_icmp .ge 45, 3) := by decide +kernel
theorem dL_isDone_233 : decode cL_isDone 233 = .ok (.aload_n 0, 1) := by decide +kernel
theorem dL_isDone_234 : decode cL_isDone 234 = .ok (.aload 5, 2) := by decide +kernel
theorem dL_isDone_236 : decode cL_isDone 236 = .ok (.aload 6, 2) := by decide +kernel
theorem dL_isDone_238 : decode cL_isDone 238 = .ok (.iload 11, 2) := by decide +kernel
theorem dL_isDone_240 : decode cL_isDone 240 = .ok (.iload 8, 2) := by decide +kernel
theorem dL_isDone_242 : decode cL_isDone 242 = .ok (.iconst 4, 1) := by decide +kernel
theorem dL_isDone_243 : decode cL_isDone 243 = .ok (.irem, 1) := by decide +kernel
theorem dL_isDone_244 : decode cL_isDone 244 = .ok (.iload 7, 2) := by decide +kernel
theorem dL_isDone_246 : decode cL_isDone 246 = .ok (.bipush 12, 2) := by decide +kernel
theorem dL_isDone_248 : decode cL_isDone 248 = .ok (.if_icmp .ge 7, 3) := by decide +kernel
theorem dL_isDone_251 : decode cL_isDone 251 = .ok (.iconst 0, 1) := by decide +kernel
theorem dL_isDone_252 : decode cL_isDone 252 = .ok (.goto 15, 3) := by decide +kernel
theorem dL_isDone_255 : decode cL_isDone 255 = .ok (.iload 7, 2) := by decide +kernel
theorem dL_isDone_257 : decode cL_isDone 257 = .ok (.bipush 14, 2) := by decide +kernel
theorem dL_isDone_259 : decode cL_isDone 259 = .ok (.if_icmp .ge 7, 3) := by decide +kernel
theorem dL_isDone_262 : decode cL_isDone 262 = .ok (.iconst 1, 1) := by decide +kernel
theorem dL_isDone_263 : decode cL_isDone 263 = .ok (.goto 4, 3) := by decide +kernel
theorem dL_isDone_266 : decode cL_isDone 266 = .ok (.iconst 4, 1) := by decide +kernel
theorem dL_isDone_267 : decode cL_isDone 267 = .ok (.iload 10, 2) := by decide +kernel
theorem dL_isDone_269 : decode cL_isDone 269 = .ok (.iconst 3, 1) := by decide +kernel
theorem dL_isDone_270 : decode cL_isDone 270 = .ok (.irem, 1) := by decide +kernel
theorem dL_isDone_271 : decode cL_isDone 271 = .ok (.invokestatic 129, 3) := by decide +kernel
theorem dL_isDone_274 : decode cL_isDone 274 = .ok (.ireturn, 1) := by decide +kernel
theorem dL_isDone_275 : decode cL_isDone 275 = .ok (.iload 7, 2) := by decide +kernel
theorem dL_isDone_277 : decode cL_isDone 277 = .ok (.bipush 21, 2) := by decide +kernel
theorem dL_isDone_279 : decode cL_isDone 279 = .ok (.if_icmp .ge 51, 3) := by decide +kernel
theorem dL_isDone_282 : decode cL_isDone 282 = .ok (.aload_n 0, 1) := by decide +kernel
theorem dL_isDone_283 : decode cL_isDone 283 = .ok (.aload_n 3, 1) := by decide +kernel
theorem dL_isDone_284 : decode cL_isDone 284 = .ok (.aload 4, 2) := by decide +kernel
theorem dL_isDone_286 : decode cL_isDone 286 = .ok (.aload 5, 2) := by decide +kernel
theorem dL_isDone_288 : decode cL_isDone 288 = .ok (.aload 6, 2) := by decide +kernel
theorem dL_isDone_290 : decode cL_isDone 290 = .ok (.iload 8, 2) := by decide +kernel
theorem dL_isDone_292 : decode cL_isDone 292 = .ok (.bipush 11, 2) := by decide +kernel
theorem dL_isDone_294 : decode cL_isDone 294 = .ok (.irem, 1) := by decide +kernel
theorem dL_isDone_295 : decode cL_isDone 295 = .ok (.ifCond .ne 7, 3) := by decide +kernel
theorem dL_isDone_298 : decode cL_isDone 298 = .ok (.iconst 4, 1) := by decide +kernel
theorem dL_isDone_299 : decode cL_isDone 299 = .ok (.goto 7, 3) := by decide +kernel
theorem dL_isDone_302 : decode cL_isDone 302 = .ok (.iload 8, 2) := by decide +kernel
theorem dL_isDone_304 : decode cL_isDone 304 = .ok (.iconst 4, 1) := by decide +kernel
theorem dL_isDone_305 : decode cL_isDone 305 = .ok (.irem, 1) := by decide +kernel
theorem dL_isDone_306 : decode cL_isDone 306 = .ok (.iload 10, 2) := by decide +kernel
theorem dL_isDone_308 : decode cL_isDone 308 = .ok (.bipush 8, 2) := by decide +kernel
theorem dL_isDone_310 : decode cL_isDone 310 = .ok (.irem, 1) := by decide +kernel
theorem dL_isDone_311 : decode cL_isDone 311 = .ok (.iload 10, 2) := by decide +kernel
theorem dL_isDone_313 : decode cL_isDone 313 = .ok (.bipush 8, 2) := by decide +kernel
theorem dL_isDone_315 : decode cL_isDone 315 = .ok (.idiv, 1) := by decide +kernel
theorem dL_isDone_316 : decode cL_isDone 316 = .ok (.iconst 3, 1) := by decide +kernel
theorem dL_isDone_317 : decode cL_isDone 317 = .ok (.irem, 1) := by decide +kernel
theorem dL_isDone_318 : decode cL_isDone 318 = .ok (.ifCond .le 7, 3) := by decide +kernel
theorem dL_isDone_321 : decode cL_isDone 321 = .ok (.iconst 1, 1) := by decide +kernel
theorem dL_isDone_322 : decode cL_isDone 322 = .ok (.goto 4, 3) := by decide +kernel
theorem dL_isDone_325 : decode cL_isDone 325 = .ok (.iconst 0, 1) := by decide +kernel
theorem dL_isDone_326 : decode cL_isDone 326 = .ok (.invokestatic 133, 3) := by decide +kernel
theorem dL_isDone_329 : decode cL_isDone 329 = .ok (.ireturn, 1) := by decide +kernel
theorem dL_isDone_330 : decode cL_isDone 330 = .ok (.iload 7, 2) := by decide +kernel
theorem dL_isDone_332 : decode cL_isDone 332 = .ok (.bipush 26, 2) := by decide +kernel
theorem dL_isDone_334 : decode cL_isDone 334 = .ok (.if_icmp .ge 29, 3) := by decide +kernel
theorem dL_isDone_337 : decode cL_isDone 337 = .ok (.aload_n 0, 1) := by decide +kernel
theorem dL_isDone_338 : decode cL_isDone 338 = .ok (.aload_n 3, 1) := by decide +kernel
theorem dL_isDone_339 : decode cL_isDone 339 = .ok (.aload 4, 2) := by decide +kernel
theorem dL_isDone_341 : decode cL_isDone 341 = .ok (.aload 5, 2) := by decide +kernel
theorem dL_isDone_343 : decode cL_isDone 343 = .ok (.aload 6, 2) := by decide +kernel
theorem dL_isDone_345 : decode cL_isDone 345 = .ok (.iload 11, 2) := by decide +kernel
theorem dL_isDone_347 : decode cL_isDone 347 = .ok (.iload 7, 2) := by decide +kernel
theorem dL_isDone_349 : decode cL_isDone 349 = .ok (.bipush 24, 2) := by decide +kernel
theorem dL_isDone_351 : decode cL_isDone 351 = .ok (.if_icmp .ge 7, 3) := by decide +kernel
theorem dL_isDone_354 : decode cL_isDone 354 = .ok (.iconst 1, 1) := by decide +kernel
theorem dL_isDone_355 : decode cL_isDone 355 = .ok (.goto 4, 3) := by decide +kernel
theorem dL_isDone_358 : decode cL_isDone 358 = .ok (.iconst 0, 1) := by decide +kernel
theorem dL_isDone_359 : decode cL_isDone 359 = .ok (.invokestatic 137, 3) := by decide +kernel
theorem dL_isDone_362 : decode cL_isDone 362 = .ok (.ireturn, 1) := by decide +kernel
theorem dL_isDone_363 : decode cL_isDone 363 = .ok (.iload 7, 2) := by decide +kernel
theorem dL_isDone_365 : decode cL_isDone 365 = .ok (.bipush 37, 2) := by decide +kernel
theorem dL_isDone_367 : decode cL_isDone 367 = .ok (.if_icmp .ge 87, 3) := by decide +kernel
theorem dL_isDone_370 : decode cL_isDone 370 = .ok (.iload 10, 2) := by decide +kernel
theorem dL_isDone_372 : decode cL_isDone 372 = .ok (.bipush 30, 2) := by decide +kernel
theorem dL_isDone_374 : decode cL_isDone 374 = .ok (.irem, 1) := by decide +kernel
theorem dL_isDone_375 : decode cL_isDone 375 = .ok (.ifCond .ne 9, 3) := by decide +kernel
theorem dL_isDone_378 : decode cL_isDone 378 = .ok (.sipush 1000, 3) := by decide +kernel
theorem dL_isDone_381 : decode cL_isDone 381 = .ok (.goto 19, 3) := by decide +kernel
theorem dL_isDone_384 : decode cL_isDone 384 = .ok (.iload 10, 2) := by decide +kernel
theorem dL_isDone_386 : decode cL_isDone 386 = .ok (.bipush 20, 2) := by decide +kernel
theorem dL_isDone_388 : decode cL_isDone 388 = .ok (.irem, 1) := by decide +kernel
theorem dL_isDone_389 : decode cL_isDone 389 = .ok (.iload 10, 2) := by decide +kernel
theorem dL_isDone_391 : decode cL_isDone 391 = .ok (.bipush 20, 2) := by decide +kernel
theorem dL_isDone_393 : decode cL_isDone 393 = .ok (.idiv, 1) := by decide +kernel
theorem dL_isDone_394 : decode cL_isDone 394 = .ok (.iconst 2, 1) := by decide +kernel
theorem dL_isDone_395 : decode cL_isDone 395 = .ok (.irem, 1) := by decide +kernel
theorem dL_isDone_396 : decode cL_isDone 396 = .ok (.ldc 114, 2) := by decide +kernel
theorem dL_isDone_398 : decode cL_isDone 398 = .ok (.imul, 1) := by decide +kernel
theorem dL_isDone_399 : decode cL_isDone 399 = .ok (.iadd, 1) := by decide +kernel
theorem dL_isDone_400 : decode cL_isDone 400 = .ok (.istore 12, 2) := by decide +kernel
theorem dL_isDone_402 : decode cL_isDone 402 = .ok (.aload_n 0, 1) := by decide +kernel
theorem dL_isDone_403 : decode cL_isDone 403 = .ok (.aload_n 3, 1) := by decide +kernel
theorem dL_isDone_404 : decode cL_isDone 404 = .ok (.aload 4, 2) := by decide +kernel
theorem dL_isDone_406 : decode cL_isDone 406 = .ok (.aload 5, 2) := by decide +kernel
theorem dL_isDone_408 : decode cL_isDone 408 = .ok (.aload 6, 2) := by decide +kernel
theorem dL_isDone_410 : decode cL_isDone 410 = .ok (.iload 11, 2) := by decide +kernel
theorem dL_isDone_412 : decode cL_isDone 412 = .ok (.iload 8, 2) := by decide +kernel
theorem dL_isDone_414 : decode cL_isDone 414 = .ok (.bipush 9, 2) := by decide +kernel
theorem dL_isDone_416 : decode cL_isDone 416 = .ok (.irem, 1) := by decide +kernel
theorem dL_isDone_417 : decode cL_isDone 417 = .ok (.ifCond .ne 7, 3) := by decide +kernel
theorem dL_isDone_420 : decode cL_isDone 420 = .ok (.iconst 3, 1) := by decide +kernel
theorem dL_isDone_421 : decode cL_isDone 421 = .ok (.goto 7, 3) := by decide +kernel
theorem dL_isDone_424 : decode cL_isDone 424 = .ok (.iload 8, 2) := by decide +kernel
theorem dL_isDone_426 : decode cL_isDone 426 = .ok (.iconst 3, 1) := by decide +kernel
theorem dL_isDone_427 : decode cL_isDone 427 = .ok (.irem, 1) := by decide +kernel
theorem dL_isDone_428 : decode cL_isDone 428 = .ok (.iload 12, 2) := by decide +kernel
theorem dL_isDone_430 : decode cL_isDone 430 = .ok (.iload 9, 2) := by decide +kernel
theorem dL_isDone_432 : decode cL_isDone 432 = .ok (.bipush 30, 2) := by decide +kernel
theorem dL_isDone_434 : decode cL_isDone 434 = .ok (.irem, 1) := by decide +kernel
theorem dL_isDone_435 : decode cL_isDone 435 = .ok (.ifCond .ne 9, 3) := by decide +kernel
theorem dL_isDone_438 : decode cL_isDone 438 = .ok (.sipush 10000, 3) := by decide +kernel
theorem dL_isDone_441 : decode cL_isDone 441 = .ok (.goto 9, 3) := by decide +kernel
theorem dL_isDone_444 : decode cL_isDone 444 = .ok (.iload 9, 2) := by decide +kernel
theorem dL_isDone_446 : decode cL_isDone 446 = .ok (.sipush 997, 3) := by decide +kernel
theorem dL_isDone_449 : decode cL_isDone 449 = .ok (.irem, 1) := by decide +kernel
theorem dL_isDone_450 : decode cL_isDone 450 = .ok (.invokestatic 141, 3) := by decide +kernel
theorem dL_isDone_453 : decode cL_isDone 453 = .ok (.ireturn, 1) := by decide +kernel
theorem dL_isDone_454 : decode cL_isDone 454 = .ok (.aload_n 0, 1) := by decide +kernel
theorem dL_isDone_455 : decode cL_isDone 455 = .ok (.aload_n 3, 1) := by decide +kernel
theorem dL_isDone_456 : decode cL_isDone 456 = .ok (.aload 4, 2) := by decide +kernel
theorem dL_isDone_458 : decode cL_isDone 458 = .ok (.aload 5, 2) := by decide +kernel
theorem dL_isDone_460 : decode cL_isDone 460 = .ok (.aload 6, 2) := by decide +kernel
theorem dL_isDone_462 : decode cL_isDone 462 = .ok (.iload 11, 2) := by decide +kernel
theorem dL_isDone_464 : decode cL_isDone 464 = .ok (.iload 8, 2) := by decide +kernel
theorem dL_isDone_466 : decode cL_isDone 466 = .ok (.iconst 3, 1) := by decide +kernel
theorem dL_isDone_467 : decode cL_isDone 467 = .ok (.irem, 1) := by decide +kernel
theorem dL_isDone_468 : decode cL_isDone 468 = .ok (.iload 10, 2) := by decide +kernel
theorem dL_isDone_470 : decode cL_isDone 470 = .ok (.bipush 20, 2) := by decide +kernel
theorem dL_isDone_472 : decode cL_isDone 472 = .ok (.irem, 1) := by decide +kernel
theorem dL_isDone_473 : decode cL_isDone 473 = .ok (.iload 10, 2) := by decide +kernel
theorem dL_isDone_475 : decode cL_isDone 475 = .ok (.bipush 20, 2) := by decide +kernel
theorem dL_isDone_477 : decode cL_isDone 477 = .ok (.idiv, 1) := by decide +kernel
theorem dL_isDone_478 : decode cL_isDone 478 = .ok (.bipush 30, 2) := by decide +kernel
theorem dL_isDone_480 : decode cL_isDone 480 = .ok (.irem, 1) := by decide +kernel
theorem dL_isDone_481 : decode cL_isDone 481 = .ok (.invokestatic 145, 3) := by decide +kernel
theorem dL_isDone_484 : decode cL_isDone 484 = .ok (.ireturn, 1) := by decide +kernel
theorem dL_law_0 : decode cL_law 0 = .ok (.new 9, 3) := by decide +kernel
theorem dL_law_3 : decode cL_law 3 = .ok (.dup, 1) := by decide +kernel
theorem dL_law_4 : decode cL_law 4 = .ok (.invokespecial 148, 3) := by decide +kernel
theorem dL_law_7 : decode cL_law 7 = .ok (.astore_n 1, 1) := by decide +kernel
theorem dL_law_8 : decode cL_law 8 = .ok (.bipush 60, 2) := by decide +kernel
theorem dL_law_10 : decode cL_law 10 = .ok (.newarray .int, 2) := by decide +kernel
theorem dL_law_12 : decode cL_law 12 = .ok (.astore_n 2, 1) := by decide +kernel
theorem dL_law_13 : decode cL_law 13 = .ok (.bipush 60, 2) := by decide +kernel
theorem dL_law_15 : decode cL_law 15 = .ok (.newarray .int, 2) := by decide +kernel
theorem dL_law_17 : decode cL_law 17 = .ok (.astore_n 3, 1) := by decide +kernel
theorem dL_law_18 : decode cL_law 18 = .ok (.bipush 16, 2) := by decide +kernel
theorem dL_law_20 : decode cL_law 20 = .ok (.newarray .int, 2) := by decide +kernel
theorem dL_law_22 : decode cL_law 22 = .ok (.astore 4, 2) := by decide +kernel
theorem dL_law_24 : decode cL_law 24 = .ok (.bipush 6, 2) := by decide +kernel
theorem dL_law_26 : decode cL_law 26 = .ok (.newarray .int, 2) := by decide +kernel
theorem dL_law_28 : decode cL_law 28 = .ok (.astore 5, 2) := by decide +kernel
theorem dL_law_30 : decode cL_law 30 = .ok (.aload 4, 2) := by decide +kernel
theorem dL_law_32 : decode cL_law 32 = .ok (.bipush 13, 2) := by decide +kernel
theorem dL_law_34 : decode cL_law 34 = .ok (.iconst (-1), 1) := by decide +kernel
theorem dL_law_35 : decode cL_law 35 = .ok (.iastore, 1) := by decide +kernel
theorem dL_law_36 : decode cL_law 36 = .ok (.aload_n 1, 1) := by decide +kernel
theorem dL_law_37 : decode cL_law 37 = .ok (.aload_n 2, 1) := by decide +kernel
theorem dL_law_38 : decode cL_law 38 = .ok (.aload 4, 2) := by decide +kernel
theorem dL_law_40 : decode cL_law 40 = .ok (.invokestatic 149, 3) := by decide +kernel
theorem dL_law_43 : decode cL_law 43 = .ok (.istore 6, 2) := by decide +kernel
theorem dL_law_45 : decode cL_law 45 = .ok (.iconst 0, 1) := by decide +kernel
theorem dL_law_46 : decode cL_law 46 = .ok (.istore 7, 2) := by decide +kernel
theorem dL_law_48 : decode cL_law 48 = .ok (.iload 7, 2) := by decide +kernel
theorem dL_law_50 : decode cL_law 50 = .ok (.bipush 58, 2) := by decide +kernel
theorem dL_law_52 : decode cL_law 52 = .ok (.if_icmp .ge 59, 3) := by decide +kernel
theorem dL_law_55 : decode cL_law 55 = .ok (.iload 6, 2) := by decide +kernel
theorem dL_law_57 : decode cL_law 57 = .ok (.ifCond .eq 54, 3) := by decide +kernel
theorem dL_law_60 : decode cL_law 60 = .ok (.aload 4, 2) := by decide +kernel
theorem dL_law_62 : decode cL_law 62 = .ok (.bipush 14, 2) := by decide +kernel
theorem dL_law_64 : decode cL_law 64 = .ok (.iaload, 1) := by decide +kernel
theorem dL_law_65 : decode cL_law 65 = .ok (.bipush 55, 2) := by decide +kernel
theorem dL_law_67 : decode cL_law 67 = .ok (.if_icmp .gt 31, 3) := by decide +kernel
theorem dL_law_70 : decode cL_law 70 = .ok (.aload_n 1, 1) := by decide +kernel
theorem dL_law_71 : decode cL_law 71 = .ok (.aload_n 0, 1) := by decide +kernel
theorem dL_law_72 : decode cL_law 72 = .ok (.iconst 4, 1) := by decide +kernel
theorem dL_law_73 : decode cL_law 73 = .ok (.iload 7, 2) := by decide +kernel
theorem dL_law_75 : decode cL_law 75 = .ok (.imul, 1) := by decide +kernel
theorem dL_law_76 : decode cL_law 76 = .ok (.aload_n 2, 1) := by decide +kernel
theorem dL_law_77 : decode cL_law 77 = .ok (.aload_n 3, 1) := by decide +kernel
theorem dL_law_78 : decode cL_law 78 = .ok (.aload 4, 2) := by decide +kernel
theorem dL_law_80 : decode cL_law 80 = .ok (.aload 5, 2) := by decide +kernel
theorem dL_law_82 : decode cL_law 82 = .ok (.invokestatic 153, 3) := by decide +kernel
theorem dL_law_85 : decode cL_law 85 = .ok (.ifCond .eq 17, 3) := by decide +kernel
theorem dL_law_88 : decode cL_law 88 = .ok (.aload_n 1, 1) := by decide +kernel
theorem dL_law_89 : decode cL_law 89 = .ok (.aload_n 2, 1) := by decide +kernel
theorem dL_law_90 : decode cL_law 90 = .ok (.aload 4, 2) := by decide +kernel
theorem dL_law_92 : decode cL_law 92 = .ok (.invokestatic 149, 3) := by decide +kernel
theorem dL_law_95 : decode cL_law 95 = .ok (.ifCond .eq 7, 3) := by decide +kernel
theorem dL_law_98 : decode cL_law 98 = .ok (.iconst 1, 1) := by decide +kernel
theorem dL_law_99 : decode cL_law 99 = .ok (.goto 4, 3) := by decide +kernel
theorem dL_law_102 : decode cL_law 102 = .ok (.iconst 0, 1) := by decide +kernel
theorem dL_law_103 : decode cL_law 103 = .ok (.istore 6, 2) := by decide +kernel
theorem dL_law_105 : decode cL_law 105 = .ok (.iinc 7 1, 3) := by decide +kernel
theorem dL_law_108 : decode cL_law 108 = .ok (.goto (-60), 3) := by decide +kernel
theorem dL_law_111 : decode cL_law 111 = .ok (.iload 6, 2) := by decide +kernel
theorem dL_law_113 : decode cL_law 113 = .ok (.ifCond .eq 156, 3) := by decide +kernel
theorem dL_law_116 : decode cL_law 116 = .ok (.aload_n 1, 1) := by decide +kernel
theorem dL_law_117 : decode cL_law 117 = .ok (.iconst 0, 1) := by decide +kernel
theorem dL_law_118 : decode cL_law 118 = .ok (.iconst (-1), 1) := by decide +kernel
theorem dL_law_119 : decode cL_law 119 = .ok (.iconst 0, 1) := by decide +kernel
theorem dL_law_120 : decode cL_law 120 = .ok (.iconst 0, 1) := by decide +kernel
theorem dL_law_121 : decode cL_law 121 = .ok (.iconst 0, 1) := by decide +kernel
theorem dL_law_122 : decode cL_law 122 = .ok (.invokestatic 99, 3) := by decide +kernel
theorem dL_law_125 : decode cL_law 125 = .ok (.bipush (-30), 2) := by decide +kernel
theorem dL_law_127 : decode cL_law 127 = .ok (.if_icmp .ne 142, 3) := by decide +kernel
theorem dL_law_130 : decode cL_law 130 = .ok (.aload_n 1, 1) := by decide +kernel
theorem dL_law_131 : decode cL_law 131 = .ok (.iconst 1, 1) := by decide +kernel
theorem dL_law_132 : decode cL_law 132 = .ok (.bipush 60, 2) := by decide +kernel
theorem dL_law_134 : decode cL_law 134 = .ok (.iconst 0, 1) := by decide +kernel
theorem dL_law_135 : decode cL_law 135 = .ok (.iconst 0, 1) := by decide +kernel
theorem dL_law_136 : decode cL_law 136 = .ok (.iconst 0, 1) := by decide +kernel
theorem dL_law_137 : decode cL_law 137 = .ok (.invokestatic 99, 3) := by decide +kernel
theorem dL_law_140 : decode cL_law 140 = .ok (.bipush (-30), 2) := by decide +kernel
theorem dL_law_142 : decode cL_law 142 = .ok (.if_icmp .ne 127, 3) := by decide +kernel
theorem dL_law_145 : decode cL_law 145 = .ok (.aload_n 1, 1) := by decide +kernel
theorem dL_law_146 : decode cL_law 146 = .ok (.iconst 2, 1) := by decide +kernel
theorem dL_law_147 : decode cL_law 147 = .ok (.iconst (-1), 1) := by decide +kernel
theorem dL_law_148 : decode cL_law 148 = .ok (.iconst 0, 1) := by decide +kernel
theorem dL_law_149 : decode cL_law 149 = .ok (.iconst 0, 1) := by decide +kernel
theorem dL_law_150 : decode cL_law 150 = .ok (.iconst 0, 1) := by decide +kernel
theorem dL_law_151 : decode cL_law 151 = .ok (.invokestatic 99, 3) := by decide +kernel
theorem dL_law_154 : decode cL_law 154 = .ok (.bipush (-30), 2) := by decide +kernel
theorem dL_law_156 : decode cL_law 156 = .ok (.if_icmp .ne 113, 3) := by decide +kernel
theorem dL_law_159 : decode cL_law 159 = .ok (.aload_n 1, 1) := by decide +kernel
theorem dL_law_160 : decode cL_law 160 = .ok (.iconst 3, 1) := by decide +kernel
theorem dL_law_161 : decode cL_law 161 = .ok (.iconst 4, 1) := by decide +kernel
theorem dL_law_162 : decode cL_law 162 = .ok (.iconst 0, 1) := by decide +kernel
theorem dL_law_163 : decode cL_law 163 = .ok (.iconst 0, 1) := by decide +kernel
theorem dL_law_164 : decode cL_law 164 = .ok (.iconst 0, 1) := by decide +kernel
theorem dL_law_165 : decode cL_law 165 = .ok (.invokestatic 99, 3) := by decide +kernel
theorem dL_law_168 : decode cL_law 168 = .ok (.bipush (-30), 2) := by decide +kernel
theorem dL_law_170 : decode cL_law 170 = .ok (.if_icmp .ne 99, 3) := by decide +kernel
theorem dL_law_173 : decode cL_law 173 = .ok (.aload_n 1, 1) := by decide +kernel
theorem dL_law_174 : decode cL_law 174 = .ok (.iconst 4, 1) := by decide +kernel
theorem dL_law_175 : decode cL_law 175 = .ok (.iconst (-1), 1) := by decide +kernel
theorem dL_law_176 : decode cL_law 176 = .ok (.iconst 0, 1) := by decide +kernel
theorem dL_law_177 : decode cL_law 177 = .ok (.iconst 0, 1) := by decide +kernel
theorem dL_law_178 : decode cL_law 178 = .ok (.iconst 0, 1) := by decide +kernel
theorem dL_law_179 : decode cL_law 179 = .ok (.invokestatic 99, 3) := by decide +kernel
theorem dL_law_182 : decode cL_law 182 = .ok (.bipush (-30), 2) := by decide +kernel
theorem dL_law_184 : decode cL_law 184 = .ok (.if_icmp .ne 85, 3) := by decide +kernel
theorem dL_law_187 : decode cL_law 187 = .ok (.aload_n 1, 1) := by decide +kernel
theorem dL_law_188 : decode cL_law 188 = .ok (.iconst 5, 1) := by decide +kernel
theorem dL_law_189 : decode cL_law 189 = .ok (.iconst 4, 1) := by decide +kernel
theorem dL_law_190 : decode cL_law 190 = .ok (.iconst 0, 1) := by decide +kernel
theorem dL_law_191 : decode cL_law 191 = .ok (.iconst 0, 1) := by decide +kernel
theorem dL_law_192 : decode cL_law 192 = .ok (.iconst 0, 1) := by decide +kernel
theorem dL_law_193 : decode cL_law 193 = .ok (.invokestatic 99, 3) := by decide +kernel
theorem dL_law_196 : decode cL_law 196 = .ok (.bipush (-30), 2) := by decide +kernel
theorem dL_law_198 : decode cL_law 198 = .ok (.if_icmp .ne 71, 3) := by decide +kernel
theorem dL_law_201 : decode cL_law 201 = .ok (.aload_n 1, 1) := by decide +kernel
theorem dL_law_202 : decode cL_law 202 = .ok (.bipush 8, 2) := by decide +kernel
theorem dL_law_204 : decode cL_law 204 = .ok (.bipush 60, 2) := by decide +kernel
theorem dL_law_206 : decode cL_law 206 = .ok (.iconst 0, 1) := by decide +kernel
theorem dL_law_207 : decode cL_law 207 = .ok (.iconst 0, 1) := by decide +kernel
theorem dL_law_208 : decode cL_law 208 = .ok (.iconst 0, 1) := by decide +kernel
theorem dL_law_209 : decode cL_law 209 = .ok (.invokestatic 99, 3) := by decide +kernel
theorem dL_law_212 : decode cL_law 212 = .ok (.bipush (-30), 2) := by decide +kernel
theorem dL_law_214 : decode cL_law 214 = .ok (.if_icmp .ne 55, 3) := by decide +kernel
theorem dL_law_217 : decode cL_law 217 = .ok (.aload_n 1, 1) := by decide +kernel
theorem dL_law_218 : decode cL_law 218 = .ok (.bipush 12, 2) := by decide +kernel
theorem dL_law_220 : decode cL_law 220 = .ok (.iconst (-1), 1) := by decide +kernel
theorem dL_law_221 : decode cL_law 221 = .ok (.iconst 0, 1) := by decide +kernel
theorem dL_law_222 : decode cL_law 222 = .ok (.iconst 0, 1) := by decide +kernel
theorem dL_law_223 : decode cL_law 223 = .ok (.iconst 4, 1) := by decide +kernel
theorem dL_law_224 : decode cL_law 224 = .ok (.invokestatic 99, 3) := by decide +kernel
theorem dL_law_227 : decode cL_law 227 = .ok (.bipush (-30), 2) := by decide +kernel
theorem dL_law_229 : decode cL_law 229 = .ok (.if_icmp .ne 40, 3) := by decide +kernel
theorem dL_law_232 : decode cL_law 232 = .ok (.aload_n 1, 1) := by decide +kernel
theorem dL_law_233 : decode cL_law 233 = .ok (.bipush 13, 2) := by decide +kernel
theorem dL_law_235 : decode cL_law 235 = .ok (.iconst 0, 1) := by decide +kernel
theorem dL_law_236 : decode cL_law 236 = .ok (.iconst 0, 1) := by decide +kernel
theorem dL_law_237 : decode cL_law 237 = .ok (.iconst 0, 1) := by decide +kernel
theorem dL_law_238 : decode cL_law 238 = .ok (.iconst 0, 1) := by decide +kernel
theorem dL_law_239 : decode cL_law 239 = .ok (.invokestatic 99, 3) := by decide +kernel
theorem dL_law_242 : decode cL_law 242 = .ok (.bipush (-30), 2) := by decide +kernel
theorem dL_law_244 : decode cL_law 244 = .ok (.if_icmp .ne 25, 3) := by decide +kernel
theorem dL_law_247 : decode cL_law 247 = .ok (.aload_n 1, 1) := by decide +kernel
theorem dL_law_248 : decode cL_law 248 = .ok (.bipush 14, 2) := by decide +kernel
theorem dL_law_250 : decode cL_law 250 = .ok (.bipush 40, 2) := by decide +kernel
theorem dL_law_252 : decode cL_law 252 = .ok (.sipush 10000, 3) := by decide +kernel
theorem dL_law_255 : decode cL_law 255 = .ok (.iconst 0, 1) := by decide +kernel
theorem dL_law_256 : decode cL_law 256 = .ok (.iconst 0, 1) := by decide +kernel
theorem dL_law_257 : decode cL_law 257 = .ok (.invokestatic 99, 3) := by decide +kernel
theorem dL_law_260 : decode cL_law 260 = .ok (.bipush (-30), 2) := by decide +kernel
theorem dL_law_262 : decode cL_law 262 = .ok (.if_icmp .ne 7, 3) := by decide +kernel
theorem dL_law_265 : decode cL_law 265 = .ok (.iconst 1, 1) := by decide +kernel
theorem dL_law_266 : decode cL_law 266 = .ok (.goto 4, 3) := by decide +kernel
theorem dL_law_269 : decode cL_law 269 = .ok (.iconst 0, 1) := by decide +kernel
theorem dL_law_270 : decode cL_law 270 = .ok (.ireturn, 1) := by decide +kernel
