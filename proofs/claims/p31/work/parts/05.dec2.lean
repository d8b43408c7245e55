theorem dL_cell_0 : decode cL_cell 0 = .ok (.iload_n 1, 1) := by decide +kernel
theorem dL_cell_1 : decode cL_cell 1 = .ok (.aload_n 0, 1) := by decide +kernel
theorem dL_cell_2 : decode cL_cell 2 = .ok (.arraylength, 1) := by decide +kernel
theorem dL_cell_3 : decode cL_cell 3 = .ok (.if_icmp .ge 9, 3) := by decide +kernel
theorem dL_cell_6 : decode cL_cell 6 = .ok (.aload_n 0, 1) := by decide +kernel
theorem dL_cell_7 : decode cL_cell 7 = .ok (.iload_n 1, 1) := by decide +kernel
theorem dL_cell_8 : decode cL_cell 8 = .ok (.iaload, 1) := by decide +kernel
theorem dL_cell_9 : decode cL_cell 9 = .ok (.goto 13, 3) := by decide +kernel
theorem dL_cell_12 : decode cL_cell 12 = .ok (.ldc 7, 2) := by decide +kernel
theorem dL_cell_14 : decode cL_cell 14 = .ok (.iload_n 1, 1) := by decide +kernel
theorem dL_cell_15 : decode cL_cell 15 = .ok (.bipush 9, 2) := by decide +kernel
theorem dL_cell_17 : decode cL_cell 17 = .ok (.iadd, 1) := by decide +kernel
theorem dL_cell_18 : decode cL_cell 18 = .ok (.imul, 1) := by decide +kernel
theorem dL_cell_19 : decode cL_cell 19 = .ok (.ldc 8, 2) := by decide +kernel
theorem dL_cell_21 : decode cL_cell 21 = .ok (.iadd, 1) := by decide +kernel
theorem dL_cell_22 : decode cL_cell 22 = .ok (.ireturn, 1) := by decide +kernel
theorem dL_low_0 : decode cL_low 0 = .ok (.iload_n 0, 1) := by decide +kernel
theorem dL_low_1 : decode cL_low 1 = .ok (.ldc 9, 2) := by decide +kernel
theorem dL_low_3 : decode cL_low 3 = .ok (.iand, 1) := by decide +kernel
theorem dL_low_4 : decode cL_low 4 = .ok (.iload_n 1, 1) := by decide +kernel
theorem dL_low_5 : decode cL_low 5 = .ok (.irem, 1) := by decide +kernel
theorem dL_low_6 : decode cL_low 6 = .ok (.ireturn, 1) := by decide +kernel
theorem dL_at_0 : decode cL_at 0 = .ok (.aload_n 0, 1) := by decide +kernel
theorem dL_at_1 : decode cL_at 1 = .ok (.bipush 6, 2) := by decide +kernel
theorem dL_at_3 : decode cL_at 3 = .ok (.iload_n 1, 1) := by decide +kernel
theorem dL_at_4 : decode cL_at 4 = .ok (.imul, 1) := by decide +kernel
theorem dL_at_5 : decode cL_at 5 = .ok (.iload_n 2, 1) := by decide +kernel
theorem dL_at_6 : decode cL_at 6 = .ok (.iconst 4, 1) := by decide +kernel
theorem dL_at_7 : decode cL_at 7 = .ok (.idiv, 1) := by decide +kernel
theorem dL_at_8 : decode cL_at 8 = .ok (.iadd, 1) := by decide +kernel
theorem dL_at_9 : decode cL_at 9 = .ok (.iaload, 1) := by decide +kernel
theorem dL_at_10 : decode cL_at 10 = .ok (.bipush 8, 2) := by decide +kernel
theorem dL_at_12 : decode cL_at 12 = .ok (.iload_n 2, 1) := by decide +kernel
theorem dL_at_13 : decode cL_at 13 = .ok (.iconst 4, 1) := by decide +kernel
theorem dL_at_14 : decode cL_at 14 = .ok (.irem, 1) := by decide +kernel
theorem dL_at_15 : decode cL_at 15 = .ok (.imul, 1) := by decide +kernel
theorem dL_at_16 : decode cL_at 16 = .ok (.ishr, 1) := by decide +kernel
theorem dL_at_17 : decode cL_at 17 = .ok (.sipush 255, 3) := by decide +kernel
theorem dL_at_20 : decode cL_at 20 = .ok (.iand, 1) := by decide +kernel
theorem dL_at_21 : decode cL_at 21 = .ok (.ireturn, 1) := by decide +kernel
theorem dL_puts_0 : decode cL_puts 0 = .ok (.aload_n 3, 1) := by decide +kernel
theorem dL_puts_1 : decode cL_puts 1 = .ok (.bipush 6, 2) := by decide +kernel
theorem dL_puts_3 : decode cL_puts 3 = .ok (.iload 4, 2) := by decide +kernel
theorem dL_puts_5 : decode cL_puts 5 = .ok (.imul, 1) := by decide +kernel
theorem dL_puts_6 : decode cL_puts 6 = .ok (.aload_n 2, 1) := by decide +kernel
theorem dL_puts_7 : decode cL_puts 7 = .ok (.bipush 9, 2) := by decide +kernel
theorem dL_puts_9 : decode cL_puts 9 = .ok (.iaload, 1) := by decide +kernel
theorem dL_puts_10 : decode cL_puts 10 = .ok (.iconst 4, 1) := by decide +kernel
theorem dL_puts_11 : decode cL_puts 11 = .ok (.idiv, 1) := by decide +kernel
theorem dL_puts_12 : decode cL_puts 12 = .ok (.iadd, 1) := by decide +kernel
theorem dL_puts_13 : decode cL_puts 13 = .ok (.dup2, 1) := by decide +kernel
theorem dL_puts_14 : decode cL_puts 14 = .ok (.iaload, 1) := by decide +kernel
theorem dL_puts_15 : decode cL_puts 15 = .ok (.iload_n 0, 1) := by decide +kernel
theorem dL_puts_16 : decode cL_puts 16 = .ok (.bipush 8, 2) := by decide +kernel
theorem dL_puts_18 : decode cL_puts 18 = .ok (.aload_n 2, 1) := by decide +kernel
theorem dL_puts_19 : decode cL_puts 19 = .ok (.bipush 9, 2) := by decide +kernel
theorem dL_puts_21 : decode cL_puts 21 = .ok (.iaload, 1) := by decide +kernel
theorem dL_puts_22 : decode cL_puts 22 = .ok (.iconst 4, 1) := by decide +kernel
theorem dL_puts_23 : decode cL_puts 23 = .ok (.irem, 1) := by decide +kernel
theorem dL_puts_24 : decode cL_puts 24 = .ok (.imul, 1) := by decide +kernel
theorem dL_puts_25 : decode cL_puts 25 = .ok (.ishl, 1) := by decide +kernel
theorem dL_puts_26 : decode cL_puts 26 = .ok (.ior, 1) := by decide +kernel
theorem dL_puts_27 : decode cL_puts 27 = .ok (.iastore, 1) := by decide +kernel
theorem dL_puts_28 : decode cL_puts 28 = .ok (.aload_n 2, 1) := by decide +kernel
theorem dL_puts_29 : decode cL_puts 29 = .ok (.bipush 9, 2) := by decide +kernel
theorem dL_puts_31 : decode cL_puts 31 = .ok (.dup2, 1) := by decide +kernel
theorem dL_puts_32 : decode cL_puts 32 = .ok (.iaload, 1) := by decide +kernel
theorem dL_puts_33 : decode cL_puts 33 = .ok (.iconst 1, 1) := by decide +kernel
theorem dL_puts_34 : decode cL_puts 34 = .ok (.iadd, 1) := by decide +kernel
theorem dL_puts_35 : decode cL_puts 35 = .ok (.iastore, 1) := by decide +kernel
theorem dL_puts_36 : decode cL_puts 36 = .ok (.aload_n 1, 1) := by decide +kernel
theorem dL_puts_37 : decode cL_puts 37 = .ok (.iload_n 0, 1) := by decide +kernel
theorem dL_puts_38 : decode cL_puts 38 = .ok (.i2l, 1) := by decide +kernel
theorem dL_puts_39 : decode cL_puts 39 = .ok (.invokevirtual 10, 3) := by decide +kernel
theorem dL_puts_42 : decode cL_puts 42 = .ok (.pop, 1) := by decide +kernel
theorem dL_puts_43 : decode cL_puts 43 = .ok (.return_, 1) := by decide +kernel
theorem dL_makes_0 : decode cL_makes 0 = .ok (.iconst 0, 1) := by decide +kernel
theorem dL_makes_1 : decode cL_makes 1 = .ok (.istore 5, 2) := by decide +kernel
theorem dL_makes_3 : decode cL_makes 3 = .ok (.iload 5, 2) := by decide +kernel
theorem dL_makes_5 : decode cL_makes 5 = .ok (.bipush 6, 2) := by decide +kernel
theorem dL_makes_7 : decode cL_makes 7 = .ok (.if_icmp .ge 20, 3) := by decide +kernel
theorem dL_makes_10 : decode cL_makes 10 = .ok (.aload 4, 2) := by decide +kernel
theorem dL_makes_12 : decode cL_makes 12 = .ok (.bipush 6, 2) := by decide +kernel
theorem dL_makes_14 : decode cL_makes 14 = .ok (.iload_n 0, 1) := by decide +kernel
theorem dL_makes_15 : decode cL_makes 15 = .ok (.imul, 1) := by decide +kernel
theorem dL_makes_16 : decode cL_makes 16 = .ok (.iload 5, 2) := by decide +kernel
theorem dL_makes_18 : decode cL_makes 18 = .ok (.iadd, 1) := by decide +kernel
theorem dL_makes_19 : decode cL_makes 19 = .ok (.iconst 0, 1) := by decide +kernel
theorem dL_makes_20 : decode cL_makes 20 = .ok (.iastore, 1) := by decide +kernel
theorem dL_makes_21 : decode cL_makes 21 = .ok (.iinc 5 1, 3) := by decide +kernel
theorem dL_makes_24 : decode cL_makes 24 = .ok (.goto (-21), 3) := by decide +kernel
theorem dL_makes_27 : decode cL_makes 27 = .ok (.aload_n 2, 1) := by decide +kernel
theorem dL_makes_28 : decode cL_makes 28 = .ok (.invokevirtual 16, 3) := by decide +kernel
theorem dL_makes_31 : decode cL_makes 31 = .ok (.pop, 1) := by decide +kernel
theorem dL_makes_32 : decode cL_makes 32 = .ok (.aload_n 3, 1) := by decide +kernel
theorem dL_makes_33 : decode cL_makes 33 = .ok (.bipush 9, 2) := by decide +kernel
theorem dL_makes_35 : decode cL_makes 35 = .ok (.iconst 0, 1) := by decide +kernel
theorem dL_makes_36 : decode cL_makes 36 = .ok (.iastore, 1) := by decide +kernel
theorem dL_makes_37 : decode cL_makes 37 = .ok (.iconst 0, 1) := by decide +kernel
theorem dL_makes_38 : decode cL_makes 38 = .ok (.istore 5, 2) := by decide +kernel
theorem dL_makes_40 : decode cL_makes 40 = .ok (.iconst 1, 1) := by decide +kernel
theorem dL_makes_41 : decode cL_makes 41 = .ok (.istore 6, 2) := by decide +kernel
theorem dL_makes_43 : decode cL_makes 43 = .ok (.iconst 0, 1) := by decide +kernel
theorem dL_makes_44 : decode cL_makes 44 = .ok (.istore 7, 2) := by decide +kernel
theorem dL_makes_46 : decode cL_makes 46 = .ok (.iload 7, 2) := by decide +kernel
theorem dL_makes_48 : decode cL_makes 48 = .ok (.bipush 9, 2) := by decide +kernel
theorem dL_makes_50 : decode cL_makes 50 = .ok (.if_icmp .ge 270, 3) := by decide +kernel
theorem dL_makes_53 : decode cL_makes 53 = .ok (.aload_n 3, 1) := by decide +kernel
theorem dL_makes_54 : decode cL_makes 54 = .ok (.bipush 9, 2) := by decide +kernel
theorem dL_makes_56 : decode cL_makes 56 = .ok (.iaload, 1) := by decide +kernel
theorem dL_makes_57 : decode cL_makes 57 = .ok (.bipush 15, 2) := by decide +kernel
theorem dL_makes_59 : decode cL_makes 59 = .ok (.if_icmp .ge 261, 3) := by decide +kernel
theorem dL_makes_62 : decode cL_makes 62 = .ok (.iload_n 1, 1) := by decide +kernel
theorem dL_makes_63 : decode cL_makes 63 = .ok (.iconst 3, 1) := by decide +kernel
theorem dL_makes_64 : decode cL_makes 64 = .ok (.iload 7, 2) := by decide +kernel
theorem dL_makes_66 : decode cL_makes 66 = .ok (.bipush 9, 2) := by decide +kernel
theorem dL_makes_68 : decode cL_makes 68 = .ok (.irem, 1) := by decide +kernel
theorem dL_makes_69 : decode cL_makes 69 = .ok (.imul, 1) := by decide +kernel
theorem dL_makes_70 : decode cL_makes 70 = .ok (.ishr, 1) := by decide +kernel
theorem dL_makes_71 : decode cL_makes 71 = .ok (.bipush 31, 2) := by decide +kernel
theorem dL_makes_73 : decode cL_makes 73 = .ok (.iload 7, 2) := by decide +kernel
theorem dL_makes_75 : decode cL_makes 75 = .ok (.imul, 1) := by decide +kernel
theorem dL_makes_76 : decode cL_makes 76 = .ok (.iload_n 1, 1) := by decide +kernel
theorem dL_makes_77 : decode cL_makes 77 = .ok (.sipush 255, 3) := by decide +kernel
theorem dL_makes_80 : decode cL_makes 80 = .ok (.iand, 1) := by decide +kernel
theorem dL_makes_81 : decode cL_makes 81 = .ok (.imul, 1) := by decide +kernel
theorem dL_makes_82 : decode cL_makes 82 = .ok (.iadd, 1) := by decide +kernel
theorem dL_makes_83 : decode cL_makes 83 = .ok (.istore 8, 2) := by decide +kernel
theorem dL_makes_85 : decode cL_makes 85 = .ok (.iload 8, 2) := by decide +kernel
theorem dL_makes_87 : decode cL_makes 87 = .ok (.bipush 9, 2) := by decide +kernel
theorem dL_makes_89 : decode cL_makes 89 = .ok (.invokestatic 20, 3) := by decide +kernel
theorem dL_makes_92 : decode cL_makes 92 = .ok (.istore 9, 2) := by decide +kernel
theorem dL_makes_94 : decode cL_makes 94 = .ok (.iload 9, 2) := by decide +kernel
theorem dL_makes_96 : decode cL_makes 96 = .ok (.bipush 8, 2) := by decide +kernel
theorem dL_makes_98 : decode cL_makes 98 = .ok (.if_icmp .ne 29, 3) := by decide +kernel
theorem dL_makes_101 : decode cL_makes 101 = .ok (.iload 5, 2) := by decide +kernel
theorem dL_makes_103 : decode cL_makes 103 = .ok (.ifCond .le 24, 3) := by decide +kernel
theorem dL_makes_106 : decode cL_makes 106 = .ok (.iload 6, 2) := by decide +kernel
theorem dL_makes_108 : decode cL_makes 108 = .ok (.ifCond .ne 19, 3) := by decide +kernel
theorem dL_makes_111 : decode cL_makes 111 = .ok (.bipush 41, 2) := by decide +kernel
theorem dL_makes_113 : decode cL_makes 113 = .ok (.aload_n 2, 1) := by decide +kernel
theorem dL_makes_114 : decode cL_makes 114 = .ok (.aload_n 3, 1) := by decide +kernel
theorem dL_makes_115 : decode cL_makes 115 = .ok (.aload 4, 2) := by decide +kernel
theorem dL_makes_117 : decode cL_makes 117 = .ok (.iload_n 0, 1) := by decide +kernel
theorem dL_makes_118 : decode cL_makes 118 = .ok (.invokestatic 26, 3) := by decide +kernel
theorem dL_makes_121 : decode cL_makes 121 = .ok (.iinc 5 (-1), 3) := by decide +kernel
theorem dL_makes_124 : decode cL_makes 124 = .ok (.goto 190, 3) := by decide +kernel
theorem dL_makes_127 : decode cL_makes 127 = .ok (.iload 9, 2) := by decide +kernel
theorem dL_makes_129 : decode cL_makes 129 = .ok (.iconst 5, 1) := by decide +kernel
theorem dL_makes_130 : decode cL_makes 130 = .ok (.if_icmp .le 91, 3) := by decide +kernel
theorem dL_makes_133 : decode cL_makes 133 = .ok (.iload 5, 2) := by decide +kernel
theorem dL_makes_135 : decode cL_makes 135 = .ok (.iconst 3, 1) := by decide +kernel
theorem dL_makes_136 : decode cL_makes 136 = .ok (.if_icmp .ge 85, 3) := by decide +kernel
theorem dL_makes_139 : decode cL_makes 139 = .ok (.iload 9, 2) := by decide +kernel
theorem dL_makes_141 : decode cL_makes 141 = .ok (.bipush 6, 2) := by decide +kernel
theorem dL_makes_143 : decode cL_makes 143 = .ok (.if_icmp .ne 8, 3) := by decide +kernel
theorem dL_makes_146 : decode cL_makes 146 = .ok (.bipush 120, 2) := by decide +kernel
theorem dL_makes_148 : decode cL_makes 148 = .ok (.goto 20, 3) := by decide +kernel
theorem dL_makes_151 : decode cL_makes 151 = .ok (.iload 8, 2) := by decide +kernel
theorem dL_makes_153 : decode cL_makes 153 = .ok (.iconst 5, 1) := by decide +kernel
theorem dL_makes_154 : decode cL_makes 154 = .ok (.ishr, 1) := by decide +kernel
theorem dL_makes_155 : decode cL_makes 155 = .ok (.iconst 1, 1) := by decide +kernel
theorem dL_makes_156 : decode cL_makes 156 = .ok (.iand, 1) := by decide +kernel
theorem dL_makes_157 : decode cL_makes 157 = .ok (.iconst 1, 1) := by decide +kernel
theorem dL_makes_158 : decode cL_makes 158 = .ok (.if_icmp .ne 8, 3) := by decide +kernel
theorem dL_makes_161 : decode cL_makes 161 = .ok (.bipush 115, 2) := by decide +kernel
theorem dL_makes_163 : decode cL_makes 163 = .ok (.goto 5, 3) := by decide +kernel
theorem dL_makes_166 : decode cL_makes 166 = .ok (.bipush 108, 2) := by decide +kernel
theorem dL_makes_168 : decode cL_makes 168 = .ok (.aload_n 2, 1) := by decide +kernel
theorem dL_makes_169 : decode cL_makes 169 = .ok (.aload_n 3, 1) := by decide +kernel
theorem dL_makes_170 : decode cL_makes 170 = .ok (.aload 4, 2) := by decide +kernel
theorem dL_makes_172 : decode cL_makes 172 = .ok (.iload_n 0, 1) := by decide +kernel
theorem dL_makes_173 : decode cL_makes 173 = .ok (.invokestatic 26, 3) := by decide +kernel
theorem dL_makes_176 : decode cL_makes 176 = .ok (.iload 9, 2) := by decide +kernel
theorem dL_makes_178 : decode cL_makes 178 = .ok (.bipush 6, 2) := by decide +kernel
theorem dL_makes_180 : decode cL_makes 180 = .ok (.if_icmp .ne 22, 3) := by decide +kernel
theorem dL_makes_183 : decode cL_makes 183 = .ok (.bipush 50, 2) := by decide +kernel
theorem dL_makes_185 : decode cL_makes 185 = .ok (.iload 8, 2) := by decide +kernel
theorem dL_makes_187 : decode cL_makes 187 = .ok (.iconst 4, 1) := by decide +kernel
theorem dL_makes_188 : decode cL_makes 188 = .ok (.ishr, 1) := by decide +kernel
theorem dL_makes_189 : decode cL_makes 189 = .ok (.iconst 3, 1) := by decide +kernel
theorem dL_makes_190 : decode cL_makes 190 = .ok (.invokestatic 20, 3) := by decide +kernel
theorem dL_makes_193 : decode cL_makes 193 = .ok (.iadd, 1) := by decide +kernel
theorem dL_makes_194 : decode cL_makes 194 = .ok (.aload_n 2, 1) := by decide +kernel
theorem dL_makes_195 : decode cL_makes 195 = .ok (.aload_n 3, 1) := by decide +kernel
theorem dL_makes_196 : decode cL_makes 196 = .ok (.aload 4, 2) := by decide +kernel
theorem dL_makes_198 : decode cL_makes 198 = .ok (.iload_n 0, 1) := by decide +kernel
theorem dL_makes_199 : decode cL_makes 199 = .ok (.invokestatic 26, 3) := by decide +kernel
theorem dL_makes_202 : decode cL_makes 202 = .ok (.bipush 40, 2) := by decide +kernel
theorem dL_makes_204 : decode cL_makes 204 = .ok (.aload_n 2, 1) := by decide +kernel
theorem dL_makes_205 : decode cL_makes 205 = .ok (.aload_n 3, 1) := by decide +kernel
theorem dL_makes_206 : decode cL_makes 206 = .ok (.aload 4, 2) := by decide +kernel
theorem dL_makes_208 : decode cL_makes 208 = .ok (.iload_n 0, 1) := by decide +kernel
theorem dL_makes_209 : decode cL_makes 209 = .ok (.invokestatic 26, 3) := by decide +kernel
theorem dL_makes_212 : decode cL_makes 212 = .ok (.iinc 5 1, 3) := by decide +kernel
theorem dL_makes_215 : decode cL_makes 215 = .ok (.iconst 1, 1) := by decide +kernel
theorem dL_makes_216 : decode cL_makes 216 = .ok (.istore 6, 2) := by decide +kernel
theorem dL_makes_218 : decode cL_makes 218 = .ok (.goto 96, 3) := by decide +kernel
theorem dL_makes_221 : decode cL_makes 221 = .ok (.iload 9, 2) := by decide +kernel
theorem dL_makes_223 : decode cL_makes 223 = .ok (.iconst 3, 1) := by decide +kernel
theorem dL_makes_224 : decode cL_makes 224 = .ok (.if_icmp .ne 8, 3) := by decide +kernel
theorem dL_makes_227 : decode cL_makes 227 = .ok (.bipush 99, 2) := by decide +kernel
theorem dL_makes_229 : decode cL_makes 229 = .ok (.goto 16, 3) := by decide +kernel
theorem dL_makes_232 : decode cL_makes 232 = .ok (.iload 9, 2) := by decide +kernel
theorem dL_makes_234 : decode cL_makes 234 = .ok (.iconst 4, 1) := by decide +kernel
theorem dL_makes_235 : decode cL_makes 235 = .ok (.if_icmp .ne 8, 3) := by decide +kernel
theorem dL_makes_238 : decode cL_makes 238 = .ok (.bipush 107, 2) := by decide +kernel
theorem dL_makes_240 : decode cL_makes 240 = .ok (.goto 5, 3) := by decide +kernel
theorem dL_makes_243 : decode cL_makes 243 = .ok (.bipush 119, 2) := by decide +kernel
theorem dL_makes_245 : decode cL_makes 245 = .ok (.aload_n 2, 1) := by decide +kernel
theorem dL_makes_246 : decode cL_makes 246 = .ok (.aload_n 3, 1) := by decide +kernel
theorem dL_makes_247 : decode cL_makes 247 = .ok (.aload 4, 2) := by decide +kernel
theorem dL_makes_249 : decode cL_makes 249 = .ok (.iload_n 0, 1) := by decide +kernel
theorem dL_makes_250 : decode cL_makes 250 = .ok (.invokestatic 26, 3) := by decide +kernel
theorem dL_makes_253 : decode cL_makes 253 = .ok (.iload 9, 2) := by decide +kernel
theorem dL_makes_255 : decode cL_makes 255 = .ok (.iconst 3, 1) := by decide +kernel
theorem dL_makes_256 : decode cL_makes 256 = .ok (.if_icmp .eq 15, 3) := by decide +kernel
theorem dL_makes_259 : decode cL_makes 259 = .ok (.iload 9, 2) := by decide +kernel
theorem dL_makes_261 : decode cL_makes 261 = .ok (.iconst 4, 1) := by decide +kernel
theorem dL_makes_262 : decode cL_makes 262 = .ok (.if_icmp .eq 9, 3) := by decide +kernel
theorem dL_makes_265 : decode cL_makes 265 = .ok (.iload 9, 2) := by decide +kernel
theorem dL_makes_267 : decode cL_makes 267 = .ok (.iconst 2, 1) := by decide +kernel
theorem dL_makes_268 : decode cL_makes 268 = .ok (.if_icmp .ne 43, 3) := by decide +kernel
theorem dL_makes_271 : decode cL_makes 271 = .ok (.iload 9, 2) := by decide +kernel
theorem dL_makes_273 : decode cL_makes 273 = .ok (.iconst 2, 1) := by decide +kernel
theorem dL_makes_274 : decode cL_makes 274 = .ok (.if_icmp .ne 17, 3) := by decide +kernel
theorem dL_makes_277 : decode cL_makes 277 = .ok (.bipush 50, 2) := by decide +kernel
theorem dL_makes_279 : decode cL_makes 279 = .ok (.iload 8, 2) := by decide +kernel
theorem dL_makes_281 : decode cL_makes 281 = .ok (.iconst 4, 1) := by decide +kernel
theorem dL_makes_282 : decode cL_makes 282 = .ok (.ishr, 1) := by decide +kernel
theorem dL_makes_283 : decode cL_makes 283 = .ok (.iconst 5, 1) := by decide +kernel
theorem dL_makes_284 : decode cL_makes 284 = .ok (.invokestatic 20, 3) := by decide +kernel
theorem dL_makes_287 : decode cL_makes 287 = .ok (.iadd, 1) := by decide +kernel
theorem dL_makes_288 : decode cL_makes 288 = .ok (.goto 15, 3) := by decide +kernel
theorem dL_makes_291 : decode cL_makes 291 = .ok (.bipush 48, 2) := by decide +kernel
theorem dL_makes_293 : decode cL_makes 293 = .ok (.iload 8, 2) := by decide +kernel
theorem dL_makes_295 : decode cL_makes 295 = .ok (.iconst 4, 1) := by decide +kernel
theorem dL_makes_296 : decode cL_makes 296 = .ok (.ishr, 1) := by decide +kernel
theorem dL_makes_297 : decode cL_makes 297 = .ok (.bipush 6, 2) := by decide +kernel
theorem dL_makes_299 : decode cL_makes 299 = .ok (.invokestatic 20, 3) := by decide +kernel
theorem dL_makes_302 : decode cL_makes 302 = .ok (.iadd, 1) := by decide +kernel
theorem dL_makes_303 : decode cL_makes 303 = .ok (.aload_n 2, 1) := by decide +kernel
theorem dL_makes_304 : decode cL_makes 304 = .ok (.aload_n 3, 1) := by decide +kernel
theorem dL_makes_305 : decode cL_makes 305 = .ok (.aload 4, 2) := by decide +kernel
theorem dL_makes_307 : decode cL_makes 307 = .ok (.iload_n 0, 1) := by decide +kernel
theorem dL_makes_308 : decode cL_makes 308 = .ok (.invokestatic 26, 3) := by decide +kernel
theorem dL_makes_311 : decode cL_makes 311 = .ok (.iconst 0, 1) := by decide +kernel
theorem dL_makes_312 : decode cL_makes 312 = .ok (.istore 6, 2) := by decide +kernel
theorem dL_makes_314 : decode cL_makes 314 = .ok (.iinc 7 1, 3) := by decide +kernel
theorem dL_makes_317 : decode cL_makes 317 = .ok (.goto (-271), 3) := by decide +kernel
theorem dL_makes_320 : decode cL_makes 320 = .ok (.iload 6, 2) := by decide +kernel
theorem dL_makes_322 : decode cL_makes 322 = .ok (.ifCond .eq 13, 3) := by decide +kernel
theorem dL_makes_325 : decode cL_makes 325 = .ok (.bipush 119, 2) := by decide +kernel
theorem dL_makes_327 : decode cL_makes 327 = .ok (.aload_n 2, 1) := by decide +kernel
theorem dL_makes_328 : decode cL_makes 328 = .ok (.aload_n 3, 1) := by decide +kernel
theorem dL_makes_329 : decode cL_makes 329 = .ok (.aload 4, 2) := by decide +kernel
theorem dL_makes_331 : decode cL_makes 331 = .ok (.iload_n 0, 1) := by decide +kernel
theorem dL_makes_332 : decode cL_makes 332 = .ok (.invokestatic 26, 3) := by decide +kernel
theorem dL_makes_335 : decode cL_makes 335 = .ok (.iload 5, 2) := by decide +kernel
theorem dL_makes_337 : decode cL_makes 337 = .ok (.ifCond .le 19, 3) := by decide +kernel
theorem dL_makes_340 : decode cL_makes 340 = .ok (.bipush 41, 2) := by decide +kernel
theorem dL_makes_342 : decode cL_makes 342 = .ok (.aload_n 2, 1) := by decide +kernel
theorem dL_makes_343 : decode cL_makes 343 = .ok (.aload_n 3, 1) := by decide +kernel
theorem dL_makes_344 : decode cL_makes 344 = .ok (.aload 4, 2) := by decide +kernel
theorem dL_makes_346 : decode cL_makes 346 = .ok (.iload_n 0, 1) := by decide +kernel
theorem dL_makes_347 : decode cL_makes 347 = .ok (.invokestatic 26, 3) := by decide +kernel
theorem dL_makes_350 : decode cL_makes 350 = .ok (.iinc 5 (-1), 3) := by decide +kernel
theorem dL_makes_353 : decode cL_makes 353 = .ok (.goto (-18), 3) := by decide +kernel
theorem dL_makes_356 : decode cL_makes 356 = .ok (.aload_n 3, 1) := by decide +kernel
theorem dL_makes_357 : decode cL_makes 357 = .ok (.bipush 9, 2) := by decide +kernel
theorem dL_makes_359 : decode cL_makes 359 = .ok (.iaload, 1) := by decide +kernel
theorem dL_makes_360 : decode cL_makes 360 = .ok (.ireturn, 1) := by decide +kernel
theorem dL_steps_0 : decode cL_steps 0 = .ok (.iconst 0, 1) := by decide +kernel
theorem dL_steps_1 : decode cL_steps 1 = .ok (.istore_n 3, 1) := by decide +kernel
theorem dL_steps_2 : decode cL_steps 2 = .ok (.iconst 0, 1) := by decide +kernel
theorem dL_steps_3 : decode cL_steps 3 = .ok (.istore 4, 2) := by decide +kernel
theorem dL_steps_5 : decode cL_steps 5 = .ok (.iload 4, 2) := by decide +kernel
theorem dL_steps_7 : decode cL_steps 7 = .ok (.aload_n 2, 1) := by decide +kernel
theorem dL_steps_8 : decode cL_steps 8 = .ok (.iload_n 0, 1) := by decide +kernel
theorem dL_steps_9 : decode cL_steps 9 = .ok (.iaload, 1) := by decide +kernel
theorem dL_steps_10 : decode cL_steps 10 = .ok (.if_icmp .ge 29, 3) := by decide +kernel
theorem dL_steps_13 : decode cL_steps 13 = .ok (.iload_n 3, 1) := by decide +kernel
theorem dL_steps_14 : decode cL_steps 14 = .ok (.aload_n 1, 1) := by decide +kernel
theorem dL_steps_15 : decode cL_steps 15 = .ok (.iload_n 0, 1) := by decide +kernel
theorem dL_steps_16 : decode cL_steps 16 = .ok (.iload 4, 2) := by decide +kernel
theorem dL_steps_18 : decode cL_steps 18 = .ok (.invokestatic 30, 3) := by decide +kernel
theorem dL_steps_21 : decode cL_steps 21 = .ok (.bipush 97, 2) := by decide +kernel
theorem dL_steps_23 : decode cL_steps 23 = .ok (.if_icmp .lt 7, 3) := by decide +kernel
theorem dL_steps_26 : decode cL_steps 26 = .ok (.iconst 1, 1) := by decide +kernel
theorem dL_steps_27 : decode cL_steps 27 = .ok (.goto 4, 3) := by decide +kernel
theorem dL_steps_30 : decode cL_steps 30 = .ok (.iconst 0, 1) := by decide +kernel
theorem dL_steps_31 : decode cL_steps 31 = .ok (.iadd, 1) := by decide +kernel
theorem dL_steps_32 : decode cL_steps 32 = .ok (.istore_n 3, 1) := by decide +kernel
theorem dL_steps_33 : decode cL_steps 33 = .ok (.iinc 4 1, 3) := by decide +kernel
theorem dL_steps_36 : decode cL_steps 36 = .ok (.goto (-31), 3) := by decide +kernel
theorem dL_steps_39 : decode cL_steps 39 = .ok (.iload_n 3, 1) := by decide +kernel
theorem dL_steps_40 : decode cL_steps 40 = .ok (.ireturn, 1) := by decide +kernel
theorem dL_calls_0 : decode cL_calls 0 = .ok (.iconst 0, 1) := by decide +kernel
theorem dL_calls_1 : decode cL_calls 1 = .ok (.istore_n 3, 1) := by decide +kernel
theorem dL_calls_2 : decode cL_calls 2 = .ok (.iconst 0, 1) := by decide +kernel
theorem dL_calls_3 : decode cL_calls 3 = .ok (.istore 4, 2) := by decide +kernel
theorem dL_calls_5 : decode cL_calls 5 = .ok (.iload 4, 2) := by decide +kernel
theorem dL_calls_7 : decode cL_calls 7 = .ok (.iconst 1, 1) := by decide +kernel
theorem dL_calls_8 : decode cL_calls 8 = .ok (.iadd, 1) := by decide +kernel
theorem dL_calls_9 : decode cL_calls 9 = .ok (.aload_n 2, 1) := by decide +kernel
theorem dL_calls_10 : decode cL_calls 10 = .ok (.iload_n 0, 1) := by decide +kernel
theorem dL_calls_11 : decode cL_calls 11 = .ok (.iaload, 1) := by decide +kernel
theorem dL_calls_12 : decode cL_calls 12 = .ok (.if_icmp .ge 42, 3) := by decide +kernel
theorem dL_calls_15 : decode cL_calls 15 = .ok (.iload_n 3, 1) := by decide +kernel
theorem dL_calls_16 : decode cL_calls 16 = .ok (.aload_n 1, 1) := by decide +kernel
theorem dL_calls_17 : decode cL_calls 17 = .ok (.iload_n 0, 1) := by decide +kernel
theorem dL_calls_18 : decode cL_calls 18 = .ok (.iload 4, 2) := by decide +kernel
theorem dL_calls_20 : decode cL_calls 20 = .ok (.invokestatic 30, 3) := by decide +kernel
theorem dL_calls_23 : decode cL_calls 23 = .ok (.bipush 107, 2) := by decide +kernel
theorem dL_calls_25 : decode cL_calls 25 = .ok (.if_icmp .ne 20, 3) := by decide +kernel
theorem dL_calls_28 : decode cL_calls 28 = .ok (.iconst 1, 1) := by decide +kernel
theorem dL_calls_29 : decode cL_calls 29 = .ok (.aload_n 1, 1) := by decide +kernel
theorem dL_calls_30 : decode cL_calls 30 = .ok (.iload_n 0, 1) := by decide +kernel
theorem dL_calls_31 : decode cL_calls 31 = .ok (.iload 4, 2) := by decide +kernel
theorem dL_calls_33 : decode cL_calls 33 = .ok (.iconst 1, 1) := by decide +kernel
theorem dL_calls_34 : decode cL_calls 34 = .ok (.iadd, 1) := by decide +kernel
theorem dL_calls_35 : decode cL_calls 35 = .ok (.invokestatic 30, 3) := by decide +kernel
theorem dL_calls_38 : decode cL_calls 38 = .ok (.bipush 48, 2) := by decide +kernel
theorem dL_calls_40 : decode cL_calls 40 = .ok (.isub, 1) := by decide +kernel
theorem dL_calls_41 : decode cL_calls 41 = .ok (.ishl, 1) := by decide +kernel
theorem dL_calls_42 : decode cL_calls 42 = .ok (.goto 4, 3) := by decide +kernel
theorem dL_calls_45 : decode cL_calls 45 = .ok (.iconst 0, 1) := by decide +kernel
theorem dL_calls_46 : decode cL_calls 46 = .ok (.ior, 1) := by decide +kernel
theorem dL_calls_47 : decode cL_calls 47 = .ok (.istore_n 3, 1) := by decide +kernel
theorem dL_calls_48 : decode cL_calls 48 = .ok (.iinc 4 1, 3) := by decide +kernel
theorem dL_calls_51 : decode cL_calls 51 = .ok (.goto (-46), 3) := by decide +kernel
theorem dL_calls_54 : decode cL_calls 54 = .ok (.iload_n 3, 1) := by decide +kernel
theorem dL_calls_55 : decode cL_calls 55 = .ok (.ireturn, 1) := by decide +kernel
theorem dL_lays_0 : decode cL_lays 0 = .ok (.aload_n 2, 1) := by decide +kernel
theorem dL_lays_1 : decode cL_lays 1 = .ok (.iconst 3, 1) := by decide +kernel
theorem dL_lays_2 : decode cL_lays 2 = .ok (.iaload, 1) := by decide +kernel
theorem dL_lays_3 : decode cL_lays 3 = .ok (.istore 7, 2) := by decide +kernel
theorem dL_lays_5 : decode cL_lays 5 = .ok (.aload 5, 2) := by decide +kernel
theorem dL_lays_7 : decode cL_lays 7 = .ok (.bipush 6, 2) := by decide +kernel
theorem dL_lays_9 : decode cL_lays 9 = .ok (.iload 7, 2) := by decide +kernel
theorem dL_lays_11 : decode cL_lays 11 = .ok (.imul, 1) := by decide +kernel
theorem dL_lays_12 : decode cL_lays 12 = .ok (.iload_n 0, 1) := by decide +kernel
theorem dL_lays_13 : decode cL_lays 13 = .ok (.iastore, 1) := by decide +kernel
theorem dL_lays_14 : decode cL_lays 14 = .ok (.aload 5, 2) := by decide +kernel
theorem dL_lays_16 : decode cL_lays 16 = .ok (.bipush 6, 2) := by decide +kernel
theorem dL_lays_18 : decode cL_lays 18 = .ok (.iload 7, 2) := by decide +kernel
theorem dL_lays_20 : decode cL_lays 20 = .ok (.imul, 1) := by decide +kernel
theorem dL_lays_21 : decode cL_lays 21 = .ok (.iconst 1, 1) := by decide +kernel
theorem dL_lays_22 : decode cL_lays 22 = .ok (.iadd, 1) := by decide +kernel
theorem dL_lays_23 : decode cL_lays 23 = .ok (.iload_n 1, 1) := by decide +kernel
theorem dL_lays_24 : decode cL_lays 24 = .ok (.iastore, 1) := by decide +kernel
theorem dL_lays_25 : decode cL_lays 25 = .ok (.aload 5, 2) := by decide +kernel
theorem dL_lays_27 : decode cL_lays 27 = .ok (.bipush 6, 2) := by decide +kernel
theorem dL_lays_29 : decode cL_lays 29 = .ok (.iload 7, 2) := by decide +kernel
theorem dL_lays_31 : decode cL_lays 31 = .ok (.imul, 1) := by decide +kernel
theorem dL_lays_32 : decode cL_lays 32 = .ok (.iconst 2, 1) := by decide +kernel
theorem dL_lays_33 : decode cL_lays 33 = .ok (.iadd, 1) := by decide +kernel
theorem dL_lays_34 : decode cL_lays 34 = .ok (.iconst 0, 1) := by decide +kernel
theorem dL_lays_35 : decode cL_lays 35 = .ok (.iastore, 1) := by decide +kernel
theorem dL_lays_36 : decode cL_lays 36 = .ok (.aload 5, 2) := by decide +kernel
theorem dL_lays_38 : decode cL_lays 38 = .ok (.bipush 6, 2) := by decide +kernel
theorem dL_lays_40 : decode cL_lays 40 = .ok (.iload 7, 2) := by decide +kernel
theorem dL_lays_42 : decode cL_lays 42 = .ok (.imul, 1) := by decide +kernel
theorem dL_lays_43 : decode cL_lays 43 = .ok (.iconst 3, 1) := by decide +kernel
theorem dL_lays_44 : decode cL_lays 44 = .ok (.iadd, 1) := by decide +kernel
theorem dL_lays_45 : decode cL_lays 45 = .ok (.iconst 0, 1) := by decide +kernel
theorem dL_lays_46 : decode cL_lays 46 = .ok (.iastore, 1) := by decide +kernel
theorem dL_lays_47 : decode cL_lays 47 = .ok (.aload 5, 2) := by decide +kernel
theorem dL_lays_49 : decode cL_lays 49 = .ok (.bipush 6, 2) := by decide +kernel
theorem dL_lays_51 : decode cL_lays 51 = .ok (.iload 7, 2) := by decide +kernel
theorem dL_lays_53 : decode cL_lays 53 = .ok (.imul, 1) := by decide +kernel
theorem dL_lays_54 : decode cL_lays 54 = .ok (.iconst 4, 1) := by decide +kernel
theorem dL_lays_55 : decode cL_lays 55 = .ok (.iadd, 1) := by decide +kernel
theorem dL_lays_56 : decode cL_lays 56 = .ok (.iconst 0, 1) := by decide +kernel
theorem dL_lays_57 : decode cL_lays 57 = .ok (.iastore, 1) := by decide +kernel
theorem dL_lays_58 : decode cL_lays 58 = .ok (.aload 5, 2) := by decide +kernel
theorem dL_lays_60 : decode cL_lays 60 = .ok (.bipush 6, 2) := by decide +kernel
theorem dL_lays_62 : decode cL_lays 62 = .ok (.iload 7, 2) := by decide +kernel
theorem dL_lays_64 : decode cL_lays 64 = .ok (.imul, 1) := by decide +kernel
theorem dL_lays_65 : decode cL_lays 65 = .ok (.iconst 5, 1) := by decide +kernel
theorem dL_lays_66 : decode cL_lays 66 = .ok (.iadd, 1) := by decide +kernel
theorem dL_lays_67 : decode cL_lays 67 = .ok (.aload 4, 2) := by decide +kernel
theorem dL_lays_69 : decode cL_lays 69 = .ok (.iload_n 0, 1) := by decide +kernel
theorem dL_lays_70 : decode cL_lays 70 = .ok (.iaload, 1) := by decide +kernel
theorem dL_lays_71 : decode cL_lays 71 = .ok (.iastore, 1) := by decide +kernel
theorem dL_lays_72 : decode cL_lays 72 = .ok (.iconst 0, 1) := by decide +kernel
theorem dL_lays_73 : decode cL_lays 73 = .ok (.istore 8, 2) := by decide +kernel
theorem dL_lays_75 : decode cL_lays 75 = .ok (.iload 8, 2) := by decide +kernel
theorem dL_lays_77 : decode cL_lays 77 = .ok (.bipush 6, 2) := by decide +kernel
theorem dL_lays_79 : decode cL_lays 79 = .ok (.if_icmp .ge 29, 3) := by decide +kernel
theorem dL_lays_82 : decode cL_lays 82 = .ok (.aload 6, 2) := by decide +kernel
theorem dL_lays_84 : decode cL_lays 84 = .ok (.bipush 6, 2) := by decide +kernel
theorem dL_lays_86 : decode cL_lays 86 = .ok (.iload 7, 2) := by decide +kernel
theorem dL_lays_88 : decode cL_lays 88 = .ok (.imul, 1) := by decide +kernel
theorem dL_lays_89 : decode cL_lays 89 = .ok (.iload 8, 2) := by decide +kernel
theorem dL_lays_91 : decode cL_lays 91 = .ok (.iadd, 1) := by decide +kernel
theorem dL_lays_92 : decode cL_lays 92 = .ok (.aload_n 3, 1) := by decide +kernel
theorem dL_lays_93 : decode cL_lays 93 = .ok (.bipush 6, 2) := by decide +kernel
theorem dL_lays_95 : decode cL_lays 95 = .ok (.iload_n 0, 1) := by decide +kernel
theorem dL_lays_96 : decode cL_lays 96 = .ok (.imul, 1) := by decide +kernel
theorem dL_lays_97 : decode cL_lays 97 = .ok (.iload 8, 2) := by decide +kernel
theorem dL_lays_99 : decode cL_lays 99 = .ok (.iadd, 1) := by decide +kernel
theorem dL_lays_100 : decode cL_lays 100 = .ok (.iaload, 1) := by decide +kernel
theorem dL_lays_101 : decode cL_lays 101 = .ok (.iastore, 1) := by decide +kernel
theorem dL_lays_102 : decode cL_lays 102 = .ok (.iinc 8 1, 3) := by decide +kernel
theorem dL_lays_105 : decode cL_lays 105 = .ok (.goto (-30), 3) := by decide +kernel
theorem dL_lays_108 : decode cL_lays 108 = .ok (.aload_n 2, 1) := by decide +kernel
theorem dL_lays_109 : decode cL_lays 109 = .ok (.iconst 3, 1) := by decide +kernel
theorem dL_lays_110 : decode cL_lays 110 = .ok (.dup2, 1) := by decide +kernel
theorem dL_lays_111 : decode cL_lays 111 = .ok (.iaload, 1) := by decide +kernel
theorem dL_lays_112 : decode cL_lays 112 = .ok (.iconst 1, 1) := by decide +kernel
theorem dL_lays_113 : decode cL_lays 113 = .ok (.iadd, 1) := by decide +kernel
theorem dL_lays_114 : decode cL_lays 114 = .ok (.iastore, 1) := by decide +kernel
theorem dL_lays_115 : decode cL_lays 115 = .ok (.aload 4, 2) := by decide +kernel
theorem dL_lays_117 : decode cL_lays 117 = .ok (.iconst 5, 1) := by decide +kernel
theorem dL_lays_118 : decode cL_lays 118 = .ok (.iload_n 0, 1) := by decide +kernel
theorem dL_lays_119 : decode cL_lays 119 = .ok (.iadd, 1) := by decide +kernel
theorem dL_lays_120 : decode cL_lays 120 = .ok (.dup2, 1) := by decide +kernel
theorem dL_lays_121 : decode cL_lays 121 = .ok (.iaload, 1) := by decide +kernel
theorem dL_lays_122 : decode cL_lays 122 = .ok (.iconst 1, 1) := by decide +kernel
theorem dL_lays_123 : decode cL_lays 123 = .ok (.iadd, 1) := by decide +kernel
theorem dL_lays_124 : decode cL_lays 124 = .ok (.iastore, 1) := by decide +kernel
theorem dL_lays_125 : decode cL_lays 125 = .ok (.aload_n 2, 1) := by decide +kernel
theorem dL_lays_126 : decode cL_lays 126 = .ok (.bipush 6, 2) := by decide +kernel
theorem dL_lays_128 : decode cL_lays 128 = .ok (.aload_n 2, 1) := by decide +kernel
theorem dL_lays_129 : decode cL_lays 129 = .ok (.iconst 3, 1) := by decide +kernel
theorem dL_lays_130 : decode cL_lays 130 = .ok (.iaload, 1) := by decide +kernel
theorem dL_lays_131 : decode cL_lays 131 = .ok (.aload_n 2, 1) := by decide +kernel
theorem dL_lays_132 : decode cL_lays 132 = .ok (.bipush 6, 2) := by decide +kernel
theorem dL_lays_134 : decode cL_lays 134 = .ok (.iaload, 1) := by decide +kernel
theorem dL_lays_135 : decode cL_lays 135 = .ok (.if_icmp .le 9, 3) := by decide +kernel
theorem dL_lays_138 : decode cL_lays 138 = .ok (.aload_n 2, 1) := by decide +kernel
theorem dL_lays_139 : decode cL_lays 139 = .ok (.iconst 3, 1) := by decide +kernel
theorem dL_lays_140 : decode cL_lays 140 = .ok (.iaload, 1) := by decide +kernel
theorem dL_lays_141 : decode cL_lays 141 = .ok (.goto 7, 3) := by decide +kernel
theorem dL_lays_144 : decode cL_lays 144 = .ok (.aload_n 2, 1) := by decide +kernel
theorem dL_lays_145 : decode cL_lays 145 = .ok (.bipush 6, 2) := by decide +kernel
theorem dL_lays_147 : decode cL_lays 147 = .ok (.iaload, 1) := by decide +kernel
theorem dL_lays_148 : decode cL_lays 148 = .ok (.iastore, 1) := by decide +kernel
theorem dL_lays_149 : decode cL_lays 149 = .ok (.return_, 1) := by decide +kernel
theorem dL_settles_0 : decode cL_settles 0 = .ok (.aload_n 0, 1) := by decide +kernel
theorem dL_settles_1 : decode cL_settles 1 = .ok (.iconst 3, 1) := by decide +kernel
theorem dL_settles_2 : decode cL_settles 2 = .ok (.iaload, 1) := by decide +kernel
theorem dL_settles_3 : decode cL_settles 3 = .ok (.ifCond .le 172, 3) := by decide +kernel
theorem dL_settles_6 : decode cL_settles 6 = .ok (.bipush 6, 2) := by decide +kernel
theorem dL_settles_8 : decode cL_settles 8 = .ok (.aload_n 0, 1) := by decide +kernel
theorem dL_settles_9 : decode cL_settles 9 = .ok (.iconst 3, 1) := by decide +kernel
theorem dL_settles_10 : decode cL_settles 10 = .ok (.iaload, 1) := by decide +kernel
theorem dL_settles_11 : decode cL_settles 11 = .ok (.iconst 1, 1) := by decide +kernel
theorem dL_settles_12 : decode cL_settles 12 = .ok (.isub, 1) := by decide +kernel
theorem dL_settles_13 : decode cL_settles 13 = .ok (.imul, 1) := by decide +kernel
theorem dL_settles_14 : decode cL_settles 14 = .ok (.istore 4, 2) := by decide +kernel
theorem dL_settles_16 : decode cL_settles 16 = .ok (.aload_n 1, 1) := by decide +kernel
theorem dL_settles_17 : decode cL_settles 17 = .ok (.iload 4, 2) := by decide +kernel
theorem dL_settles_19 : decode cL_settles 19 = .ok (.iconst 2, 1) := by decide +kernel
theorem dL_settles_20 : decode cL_settles 20 = .ok (.iadd, 1) := by decide +kernel
theorem dL_settles_21 : decode cL_settles 21 = .ok (.iaload, 1) := by decide +kernel
theorem dL_settles_22 : decode cL_settles 22 = .ok (.aload_n 1, 1) := by decide +kernel
theorem dL_settles_23 : decode cL_settles 23 = .ok (.iload 4, 2) := by decide +kernel
theorem dL_settles_25 : decode cL_settles 25 = .ok (.iconst 5, 1) := by decide +kernel
theorem dL_settles_26 : decode cL_settles 26 = .ok (.iadd, 1) := by decide +kernel
theorem dL_settles_27 : decode cL_settles 27 = .ok (.iaload, 1) := by decide +kernel
theorem dL_settles_28 : decode cL_settles 28 = .ok (.if_icmp .lt 32, 3) := by decide +kernel
theorem dL_settles_31 : decode cL_settles 31 = .ok (.aload_n 0, 1) := by decide +kernel
theorem dL_settles_32 : decode cL_settles 32 = .ok (.iconst 3, 1) := by decide +kernel
theorem dL_settles_33 : decode cL_settles 33 = .ok (.dup2, 1) := by decide +kernel
theorem dL_settles_34 : decode cL_settles 34 = .ok (.iaload, 1) := by decide +kernel
theorem dL_settles_35 : decode cL_settles 35 = .ok (.iconst 1, 1) := by decide +kernel
theorem dL_settles_36 : decode cL_settles 36 = .ok (.isub, 1) := by decide +kernel
theorem dL_settles_37 : decode cL_settles 37 = .ok (.iastore, 1) := by decide +kernel
theorem dL_settles_38 : decode cL_settles 38 = .ok (.aload_n 1, 1) := by decide +kernel
theorem dL_settles_39 : decode cL_settles 39 = .ok (.iload 4, 2) := by decide +kernel
theorem dL_settles_41 : decode cL_settles 41 = .ok (.ifCond .ne 7, 3) := by decide +kernel
theorem dL_settles_44 : decode cL_settles 44 = .ok (.iconst 2, 1) := by decide +kernel
theorem dL_settles_45 : decode cL_settles 45 = .ok (.goto 7, 3) := by decide +kernel
theorem dL_settles_48 : decode cL_settles 48 = .ok (.iload 4, 2) := by decide +kernel
theorem dL_settles_50 : decode cL_settles 50 = .ok (.iconst 4, 1) := by decide +kernel
theorem dL_settles_51 : decode cL_settles 51 = .ok (.isub, 1) := by decide +kernel
theorem dL_settles_52 : decode cL_settles 52 = .ok (.dup2, 1) := by decide +kernel
theorem dL_settles_53 : decode cL_settles 53 = .ok (.iaload, 1) := by decide +kernel
theorem dL_settles_54 : decode cL_settles 54 = .ok (.iconst 2, 1) := by decide +kernel
theorem dL_settles_55 : decode cL_settles 55 = .ok (.iadd, 1) := by decide +kernel
theorem dL_settles_56 : decode cL_settles 56 = .ok (.iastore, 1) := by decide +kernel
theorem dL_settles_57 : decode cL_settles 57 = .ok (.goto 115, 3) := by decide +kernel
theorem dL_settles_60 : decode cL_settles 60 = .ok (.aload_n 3, 1) := by decide +kernel
theorem dL_settles_61 : decode cL_settles 61 = .ok (.aload_n 0, 1) := by decide +kernel
theorem dL_settles_62 : decode cL_settles 62 = .ok (.iconst 3, 1) := by decide +kernel
theorem dL_settles_63 : decode cL_settles 63 = .ok (.iaload, 1) := by decide +kernel
theorem dL_settles_64 : decode cL_settles 64 = .ok (.iconst 1, 1) := by decide +kernel
theorem dL_settles_65 : decode cL_settles 65 = .ok (.isub, 1) := by decide +kernel
theorem dL_settles_66 : decode cL_settles 66 = .ok (.aload_n 1, 1) := by decide +kernel
theorem dL_settles_67 : decode cL_settles 67 = .ok (.iload 4, 2) := by decide +kernel
theorem dL_settles_69 : decode cL_settles 69 = .ok (.iconst 2, 1) := by decide +kernel
theorem dL_settles_70 : decode cL_settles 70 = .ok (.iadd, 1) := by decide +kernel
theorem dL_settles_71 : decode cL_settles 71 = .ok (.iaload, 1) := by decide +kernel
theorem dL_settles_72 : decode cL_settles 72 = .ok (.invokestatic 30, 3) := by decide +kernel
theorem dL_settles_75 : decode cL_settles 75 = .ok (.bipush 41, 2) := by decide +kernel
theorem dL_settles_77 : decode cL_settles 77 = .ok (.if_icmp .ne 94, 3) := by decide +kernel
theorem dL_settles_80 : decode cL_settles 80 = .ok (.iload 4, 2) := by decide +kernel
theorem dL_settles_82 : decode cL_settles 82 = .ok (.iconst 2, 1) := by decide +kernel
theorem dL_settles_83 : decode cL_settles 83 = .ok (.aload_n 1, 1) := by decide +kernel
theorem dL_settles_84 : decode cL_settles 84 = .ok (.iload 4, 2) := by decide +kernel
theorem dL_settles_86 : decode cL_settles 86 = .ok (.iconst 4, 1) := by decide +kernel
theorem dL_settles_87 : decode cL_settles 87 = .ok (.iadd, 1) := by decide +kernel
theorem dL_settles_88 : decode cL_settles 88 = .ok (.iaload, 1) := by decide +kernel
theorem dL_settles_89 : decode cL_settles 89 = .ok (.iconst 1, 1) := by decide +kernel
theorem dL_settles_90 : decode cL_settles 90 = .ok (.isub, 1) := by decide +kernel
theorem dL_settles_91 : decode cL_settles 91 = .ok (.imul, 1) := by decide +kernel
theorem dL_settles_92 : decode cL_settles 92 = .ok (.iadd, 1) := by decide +kernel
theorem dL_settles_93 : decode cL_settles 93 = .ok (.istore 5, 2) := by decide +kernel
theorem dL_settles_95 : decode cL_settles 95 = .ok (.aload_n 2, 1) := by decide +kernel
theorem dL_settles_96 : decode cL_settles 96 = .ok (.iload 5, 2) := by decide +kernel
theorem dL_settles_98 : decode cL_settles 98 = .ok (.iconst 1, 1) := by decide +kernel
theorem dL_settles_99 : decode cL_settles 99 = .ok (.iadd, 1) := by decide +kernel
theorem dL_settles_100 : decode cL_settles 100 = .ok (.iaload, 1) := by decide +kernel
theorem dL_settles_101 : decode cL_settles 101 = .ok (.ifCond .le 7, 3) := by decide +kernel
theorem dL_settles_104 : decode cL_settles 104 = .ok (.iconst 1, 1) := by decide +kernel
theorem dL_settles_105 : decode cL_settles 105 = .ok (.goto 4, 3) := by decide +kernel
theorem dL_settles_108 : decode cL_settles 108 = .ok (.iconst 0, 1) := by decide +kernel
theorem dL_settles_109 : decode cL_settles 109 = .ok (.istore 6, 2) := by decide +kernel
theorem dL_settles_111 : decode cL_settles 111 = .ok (.aload_n 1, 1) := by decide +kernel
theorem dL_settles_112 : decode cL_settles 112 = .ok (.iload 4, 2) := by decide +kernel
theorem dL_settles_114 : decode cL_settles 114 = .ok (.iconst 4, 1) := by decide +kernel
theorem dL_settles_115 : decode cL_settles 115 = .ok (.iadd, 1) := by decide +kernel
theorem dL_settles_116 : decode cL_settles 116 = .ok (.dup2, 1) := by decide +kernel
theorem dL_settles_117 : decode cL_settles 117 = .ok (.iaload, 1) := by decide +kernel
theorem dL_settles_118 : decode cL_settles 118 = .ok (.iconst 1, 1) := by decide +kernel
theorem dL_settles_119 : decode cL_settles 119 = .ok (.isub, 1) := by decide +kernel
theorem dL_settles_120 : decode cL_settles 120 = .ok (.iastore, 1) := by decide +kernel
theorem dL_settles_121 : decode cL_settles 121 = .ok (.aload_n 1, 1) := by decide +kernel
theorem dL_settles_122 : decode cL_settles 122 = .ok (.iload 4, 2) := by decide +kernel
theorem dL_settles_124 : decode cL_settles 124 = .ok (.iconst 2, 1) := by decide +kernel
theorem dL_settles_125 : decode cL_settles 125 = .ok (.iadd, 1) := by decide +kernel
theorem dL_settles_126 : decode cL_settles 126 = .ok (.iload 6, 2) := by decide +kernel
theorem dL_settles_128 : decode cL_settles 128 = .ok (.ifCond .eq 10, 3) := by decide +kernel
theorem dL_settles_131 : decode cL_settles 131 = .ok (.aload_n 2, 1) := by decide +kernel
theorem dL_settles_132 : decode cL_settles 132 = .ok (.iload 5, 2) := by decide +kernel
theorem dL_settles_134 : decode cL_settles 134 = .ok (.iaload, 1) := by decide +kernel
theorem dL_settles_135 : decode cL_settles 135 = .ok (.goto 11, 3) := by decide +kernel
theorem dL_settles_138 : decode cL_settles 138 = .ok (.aload_n 1, 1) := by decide +kernel
theorem dL_settles_139 : decode cL_settles 139 = .ok (.iload 4, 2) := by decide +kernel
theorem dL_settles_141 : decode cL_settles 141 = .ok (.iconst 2, 1) := by decide +kernel
theorem dL_settles_142 : decode cL_settles 142 = .ok (.iadd, 1) := by decide +kernel
theorem dL_settles_143 : decode cL_settles 143 = .ok (.iaload, 1) := by decide +kernel
theorem dL_settles_144 : decode cL_settles 144 = .ok (.iconst 1, 1) := by decide +kernel
theorem dL_settles_145 : decode cL_settles 145 = .ok (.iadd, 1) := by decide +kernel
theorem dL_settles_146 : decode cL_settles 146 = .ok (.iastore, 1) := by decide +kernel
theorem dL_settles_147 : decode cL_settles 147 = .ok (.aload_n 1, 1) := by decide +kernel
theorem dL_settles_148 : decode cL_settles 148 = .ok (.iload 4, 2) := by decide +kernel
theorem dL_settles_150 : decode cL_settles 150 = .ok (.iconst 3, 1) := by decide +kernel
theorem dL_settles_151 : decode cL_settles 151 = .ok (.iadd, 1) := by decide +kernel
theorem dL_settles_152 : decode cL_settles 152 = .ok (.iload 6, 2) := by decide +kernel
theorem dL_settles_154 : decode cL_settles 154 = .ok (.ifCond .eq 12, 3) := by decide +kernel
theorem dL_settles_157 : decode cL_settles 157 = .ok (.aload_n 2, 1) := by decide +kernel
theorem dL_settles_158 : decode cL_settles 158 = .ok (.iload 5, 2) := by decide +kernel
theorem dL_settles_160 : decode cL_settles 160 = .ok (.iconst 1, 1) := by decide +kernel
theorem dL_settles_161 : decode cL_settles 161 = .ok (.iadd, 1) := by decide +kernel
theorem dL_settles_162 : decode cL_settles 162 = .ok (.iaload, 1) := by decide +kernel
theorem dL_settles_163 : decode cL_settles 163 = .ok (.goto 4, 3) := by decide +kernel
theorem dL_settles_166 : decode cL_settles 166 = .ok (.iconst 0, 1) := by decide +kernel
theorem dL_settles_167 : decode cL_settles 167 = .ok (.iastore, 1) := by decide +kernel
theorem dL_settles_168 : decode cL_settles 168 = .ok (.goto 4, 3) := by decide +kernel
theorem dL_settles_171 : decode cL_settles 171 = .ok (.return_, 1) := by decide +kernel
theorem dL_settles_172 : decode cL_settles 172 = .ok (.goto (-172), 3) := by decide +kernel
theorem dL_settles_175 : decode cL_settles 175 = .ok (.return_, 1) := by decide +kernel
theorem dL_behind_0 : decode cL_behind 0 = .ok (.iload_n 1, 1) := by decide +kernel
theorem dL_behind_1 : decode cL_behind 1 = .ok (.istore_n 3, 1) := by decide +kernel
theorem dL_behind_2 : decode cL_behind 2 = .ok (.aload_n 2, 1) := by decide +kernel
theorem dL_behind_3 : decode cL_behind 3 = .ok (.iload_n 0, 1) := by decide +kernel
theorem dL_behind_4 : decode cL_behind 4 = .ok (.iload_n 3, 1) := by decide +kernel
theorem dL_behind_5 : decode cL_behind 5 = .ok (.invokestatic 30, 3) := by decide +kernel
theorem dL_behind_8 : decode cL_behind 8 = .ok (.bipush 40, 2) := by decide +kernel
theorem dL_behind_10 : decode cL_behind 10 = .ok (.if_icmp .eq 9, 3) := by decide +kernel
theorem dL_behind_13 : decode cL_behind 13 = .ok (.iinc 3 1, 3) := by decide +kernel
theorem dL_behind_16 : decode cL_behind 16 = .ok (.goto (-14), 3) := by decide +kernel
theorem dL_behind_19 : decode cL_behind 19 = .ok (.iconst 1, 1) := by decide +kernel
theorem dL_behind_20 : decode cL_behind 20 = .ok (.istore 4, 2) := by decide +kernel
theorem dL_behind_22 : decode cL_behind 22 = .ok (.iload 4, 2) := by decide +kernel
theorem dL_behind_24 : decode cL_behind 24 = .ok (.ifCond .le 45, 3) := by decide +kernel
theorem dL_behind_27 : decode cL_behind 27 = .ok (.iinc 3 1, 3) := by decide +kernel
theorem dL_behind_30 : decode cL_behind 30 = .ok (.iload 4, 2) := by decide +kernel
theorem dL_behind_32 : decode cL_behind 32 = .ok (.aload_n 2, 1) := by decide +kernel
theorem dL_behind_33 : decode cL_behind 33 = .ok (.iload_n 0, 1) := by decide +kernel
theorem dL_behind_34 : decode cL_behind 34 = .ok (.iload_n 3, 1) := by decide +kernel
theorem dL_behind_35 : decode cL_behind 35 = .ok (.invokestatic 30, 3) := by decide +kernel
theorem dL_behind_38 : decode cL_behind 38 = .ok (.bipush 40, 2) := by decide +kernel
theorem dL_behind_40 : decode cL_behind 40 = .ok (.if_icmp .ne 7, 3) := by decide +kernel
theorem dL_behind_43 : decode cL_behind 43 = .ok (.iconst 1, 1) := by decide +kernel
theorem dL_behind_44 : decode cL_behind 44 = .ok (.goto 19, 3) := by decide +kernel
theorem dL_behind_47 : decode cL_behind 47 = .ok (.aload_n 2, 1) := by decide +kernel
theorem dL_behind_48 : decode cL_behind 48 = .ok (.iload_n 0, 1) := by decide +kernel
theorem dL_behind_49 : decode cL_behind 49 = .ok (.iload_n 3, 1) := by decide +kernel
theorem dL_behind_50 : decode cL_behind 50 = .ok (.invokestatic 30, 3) := by decide +kernel
theorem dL_behind_53 : decode cL_behind 53 = .ok (.bipush 41, 2) := by decide +kernel
theorem dL_behind_55 : decode cL_behind 55 = .ok (.if_icmp .ne 7, 3) := by decide +kernel
theorem dL_behind_58 : decode cL_behind 58 = .ok (.iconst (-1), 1) := by decide +kernel
theorem dL_behind_59 : decode cL_behind 59 = .ok (.goto 4, 3) := by decide +kernel
theorem dL_behind_62 : decode cL_behind 62 = .ok (.iconst 0, 1) := by decide +kernel
theorem dL_behind_63 : decode cL_behind 63 = .ok (.iadd, 1) := by decide +kernel
theorem dL_behind_64 : decode cL_behind 64 = .ok (.istore 4, 2) := by decide +kernel
theorem dL_behind_66 : decode cL_behind 66 = .ok (.goto (-44), 3) := by decide +kernel
theorem dL_behind_69 : decode cL_behind 69 = .ok (.iload_n 3, 1) := by decide +kernel
theorem dL_behind_70 : decode cL_behind 70 = .ok (.iconst 1, 1) := by decide +kernel
theorem dL_behind_71 : decode cL_behind 71 = .ok (.iadd, 1) := by decide +kernel
theorem dL_behind_72 : decode cL_behind 72 = .ok (.ireturn, 1) := by decide +kernel
theorem dL_digit_0 : decode cL_digit 0 = .ok (.iload_n 1, 1) := by decide +kernel
theorem dL_digit_1 : decode cL_digit 1 = .ok (.iconst 1, 1) := by decide +kernel
theorem dL_digit_2 : decode cL_digit 2 = .ok (.iadd, 1) := by decide +kernel
theorem dL_digit_3 : decode cL_digit 3 = .ok (.aload_n 2, 1) := by decide +kernel
theorem dL_digit_4 : decode cL_digit 4 = .ok (.bipush 6, 2) := by decide +kernel
theorem dL_digit_6 : decode cL_digit 6 = .ok (.iload_n 0, 1) := by decide +kernel
theorem dL_digit_7 : decode cL_digit 7 = .ok (.imul, 1) := by decide +kernel
theorem dL_digit_8 : decode cL_digit 8 = .ok (.iconst 5, 1) := by decide +kernel
theorem dL_digit_9 : decode cL_digit 9 = .ok (.iadd, 1) := by decide +kernel
theorem dL_digit_10 : decode cL_digit 10 = .ok (.iaload, 1) := by decide +kernel
theorem dL_digit_11 : decode cL_digit 11 = .ok (.if_icmp .ge 17, 3) := by decide +kernel
theorem dL_digit_14 : decode cL_digit 14 = .ok (.aload_n 3, 1) := by decide +kernel
theorem dL_digit_15 : decode cL_digit 15 = .ok (.iload_n 0, 1) := by decide +kernel
theorem dL_digit_16 : decode cL_digit 16 = .ok (.iload_n 1, 1) := by decide +kernel
theorem dL_digit_17 : decode cL_digit 17 = .ok (.iconst 1, 1) := by decide +kernel
theorem dL_digit_18 : decode cL_digit 18 = .ok (.iadd, 1) := by decide +kernel
theorem dL_digit_19 : decode cL_digit 19 = .ok (.invokestatic 30, 3) := by decide +kernel
theorem dL_digit_22 : decode cL_digit 22 = .ok (.bipush 48, 2) := by decide +kernel
theorem dL_digit_24 : decode cL_digit 24 = .ok (.isub, 1) := by decide +kernel
theorem dL_digit_25 : decode cL_digit 25 = .ok (.goto 4, 3) := by decide +kernel
theorem dL_digit_28 : decode cL_digit 28 = .ok (.iconst 0, 1) := by decide +kernel
theorem dL_digit_29 : decode cL_digit 29 = .ok (.istore 4, 2) := by decide +kernel
theorem dL_digit_31 : decode cL_digit 31 = .ok (.iload 4, 2) := by decide +kernel
theorem dL_digit_33 : decode cL_digit 33 = .ok (.iconst 1, 1) := by decide +kernel
theorem dL_digit_34 : decode cL_digit 34 = .ok (.if_icmp .le 15, 3) := by decide +kernel
theorem dL_digit_37 : decode cL_digit 37 = .ok (.iload 4, 2) := by decide +kernel
theorem dL_digit_39 : decode cL_digit 39 = .ok (.bipush 10, 2) := by decide +kernel
theorem dL_digit_41 : decode cL_digit 41 = .ok (.if_icmp .ge 8, 3) := by decide +kernel
theorem dL_digit_44 : decode cL_digit 44 = .ok (.iload 4, 2) := by decide +kernel
theorem dL_digit_46 : decode cL_digit 46 = .ok (.goto 4, 3) := by decide +kernel
theorem dL_digit_49 : decode cL_digit 49 = .ok (.iconst 1, 1) := by decide +kernel
theorem dL_digit_50 : decode cL_digit 50 = .ok (.ireturn, 1) := by decide +kernel
theorem dL_passes_0 : decode cL_passes 0 = .ok (.bipush 6, 2) := by decide +kernel
theorem dL_passes_2 : decode cL_passes 2 = .ok (.iload_n 0, 1) := by decide +kernel
theorem dL_passes_3 : decode cL_passes 3 = .ok (.imul, 1) := by decide +kernel
theorem dL_passes_4 : decode cL_passes 4 = .ok (.istore_n 3, 1) := by decide +kernel
theorem dL_passes_5 : decode cL_passes 5 = .ok (.iload_n 0, 1) := by decide +kernel
theorem dL_passes_6 : decode cL_passes 6 = .ok (.aload_n 1, 1) := by decide +kernel
theorem dL_passes_7 : decode cL_passes 7 = .ok (.iload_n 3, 1) := by decide +kernel
theorem dL_passes_8 : decode cL_passes 8 = .ok (.iconst 2, 1) := by decide +kernel
theorem dL_passes_9 : decode cL_passes 9 = .ok (.iadd, 1) := by decide +kernel
theorem dL_passes_10 : decode cL_passes 10 = .ok (.iaload, 1) := by decide +kernel
theorem dL_passes_11 : decode cL_passes 11 = .ok (.aload_n 1, 1) := by decide +kernel
theorem dL_passes_12 : decode cL_passes 12 = .ok (.aload_n 2, 1) := by decide +kernel
theorem dL_passes_13 : decode cL_passes 13 = .ok (.invokestatic 34, 3) := by decide +kernel
theorem dL_passes_16 : decode cL_passes 16 = .ok (.istore 4, 2) := by decide +kernel
theorem dL_passes_18 : decode cL_passes 18 = .ok (.aload_n 1, 1) := by decide +kernel
theorem dL_passes_19 : decode cL_passes 19 = .ok (.iload_n 3, 1) := by decide +kernel
theorem dL_passes_20 : decode cL_passes 20 = .ok (.iconst 3, 1) := by decide +kernel
theorem dL_passes_21 : decode cL_passes 21 = .ok (.iadd, 1) := by decide +kernel
theorem dL_passes_22 : decode cL_passes 22 = .ok (.aload_n 1, 1) := by decide +kernel
theorem dL_passes_23 : decode cL_passes 23 = .ok (.iload_n 3, 1) := by decide +kernel
theorem dL_passes_24 : decode cL_passes 24 = .ok (.iconst 3, 1) := by decide +kernel
theorem dL_passes_25 : decode cL_passes 25 = .ok (.iadd, 1) := by decide +kernel
theorem dL_passes_26 : decode cL_passes 26 = .ok (.iaload, 1) := by decide +kernel
theorem dL_passes_27 : decode cL_passes 27 = .ok (.ifCond .le 13, 3) := by decide +kernel
theorem dL_passes_30 : decode cL_passes 30 = .ok (.aload_n 1, 1) := by decide +kernel
theorem dL_passes_31 : decode cL_passes 31 = .ok (.iload_n 3, 1) := by decide +kernel
theorem dL_passes_32 : decode cL_passes 32 = .ok (.iconst 3, 1) := by decide +kernel
theorem dL_passes_33 : decode cL_passes 33 = .ok (.iadd, 1) := by decide +kernel
theorem dL_passes_34 : decode cL_passes 34 = .ok (.iaload, 1) := by decide +kernel
theorem dL_passes_35 : decode cL_passes 35 = .ok (.iconst 1, 1) := by decide +kernel
theorem dL_passes_36 : decode cL_passes 36 = .ok (.isub, 1) := by decide +kernel
theorem dL_passes_37 : decode cL_passes 37 = .ok (.goto 7, 3) := by decide +kernel
theorem dL_passes_40 : decode cL_passes 40 = .ok (.iload 4, 2) := by decide +kernel
theorem dL_passes_42 : decode cL_passes 42 = .ok (.iconst 1, 1) := by decide +kernel
theorem dL_passes_43 : decode cL_passes 43 = .ok (.isub, 1) := by decide +kernel
theorem dL_passes_44 : decode cL_passes 44 = .ok (.iastore, 1) := by decide +kernel
theorem dL_passes_45 : decode cL_passes 45 = .ok (.aload_n 1, 1) := by decide +kernel
theorem dL_passes_46 : decode cL_passes 46 = .ok (.iload_n 3, 1) := by decide +kernel
theorem dL_passes_47 : decode cL_passes 47 = .ok (.iconst 2, 1) := by decide +kernel
theorem dL_passes_48 : decode cL_passes 48 = .ok (.iadd, 1) := by decide +kernel
theorem dL_passes_49 : decode cL_passes 49 = .ok (.dup2, 1) := by decide +kernel
theorem dL_passes_50 : decode cL_passes 50 = .ok (.iaload, 1) := by decide +kernel
theorem dL_passes_51 : decode cL_passes 51 = .ok (.aload_n 1, 1) := by decide +kernel
theorem dL_passes_52 : decode cL_passes 52 = .ok (.iload_n 3, 1) := by decide +kernel
theorem dL_passes_53 : decode cL_passes 53 = .ok (.iconst 3, 1) := by decide +kernel
theorem dL_passes_54 : decode cL_passes 54 = .ok (.iadd, 1) := by decide +kernel
theorem dL_passes_55 : decode cL_passes 55 = .ok (.iaload, 1) := by decide +kernel
theorem dL_passes_56 : decode cL_passes 56 = .ok (.ifCond .le 7, 3) := by decide +kernel
theorem dL_passes_59 : decode cL_passes 59 = .ok (.iconst 0, 1) := by decide +kernel
theorem dL_passes_60 : decode cL_passes 60 = .ok (.goto 14, 3) := by decide +kernel
theorem dL_passes_63 : decode cL_passes 63 = .ok (.iload 4, 2) := by decide +kernel
theorem dL_passes_65 : decode cL_passes 65 = .ok (.iconst 1, 1) := by decide +kernel
theorem dL_passes_66 : decode cL_passes 66 = .ok (.if_icmp .le 7, 3) := by decide +kernel
theorem dL_passes_69 : decode cL_passes 69 = .ok (.iconst 2, 1) := by decide +kernel
theorem dL_passes_70 : decode cL_passes 70 = .ok (.goto 4, 3) := by decide +kernel
theorem dL_passes_73 : decode cL_passes 73 = .ok (.iconst 1, 1) := by decide +kernel
theorem dL_passes_74 : decode cL_passes 74 = .ok (.iadd, 1) := by decide +kernel
theorem dL_passes_75 : decode cL_passes 75 = .ok (.iastore, 1) := by decide +kernel
theorem dL_passes_76 : decode cL_passes 76 = .ok (.return_, 1) := by decide +kernel
theorem dL_why_0 : decode cL_why 0 = .ok (.aload_n 1, 1) := by decide +kernel
theorem dL_why_1 : decode cL_why 1 = .ok (.iconst 3, 1) := by decide +kernel
theorem dL_why_2 : decode cL_why 2 = .ok (.iaload, 1) := by decide +kernel
theorem dL_why_3 : decode cL_why 3 = .ok (.ifCond .ne 5, 3) := by decide +kernel
theorem dL_why_6 : decode cL_why 6 = .ok (.iconst 1, 1) := by decide +kernel
theorem dL_why_7 : decode cL_why 7 = .ok (.ireturn, 1) := by decide +kernel
theorem dL_why_8 : decode cL_why 8 = .ok (.bipush 6, 2) := by decide +kernel
theorem dL_why_10 : decode cL_why 10 = .ok (.aload_n 1, 1) := by decide +kernel
theorem dL_why_11 : decode cL_why 11 = .ok (.iconst 3, 1) := by decide +kernel
theorem dL_why_12 : decode cL_why 12 = .ok (.iaload, 1) := by decide +kernel
theorem dL_why_13 : decode cL_why 13 = .ok (.iconst 1, 1) := by decide +kernel
theorem dL_why_14 : decode cL_why 14 = .ok (.isub, 1) := by decide +kernel
theorem dL_why_15 : decode cL_why 15 = .ok (.imul, 1) := by decide +kernel
theorem dL_why_16 : decode cL_why 16 = .ok (.istore 6, 2) := by decide +kernel
theorem dL_why_18 : decode cL_why 18 = .ok (.aload 5, 2) := by decide +kernel
theorem dL_why_20 : decode cL_why 20 = .ok (.aload_n 1, 1) := by decide +kernel
theorem dL_why_21 : decode cL_why 21 = .ok (.iconst 3, 1) := by decide +kernel
theorem dL_why_22 : decode cL_why 22 = .ok (.iaload, 1) := by decide +kernel
theorem dL_why_23 : decode cL_why 23 = .ok (.iconst 1, 1) := by decide +kernel
theorem dL_why_24 : decode cL_why 24 = .ok (.isub, 1) := by decide +kernel
theorem dL_why_25 : decode cL_why 25 = .ok (.aload 4, 2) := by decide +kernel
theorem dL_why_27 : decode cL_why 27 = .ok (.iload 6, 2) := by decide +kernel
theorem dL_why_29 : decode cL_why 29 = .ok (.iconst 2, 1) := by decide +kernel
theorem dL_why_30 : decode cL_why 30 = .ok (.iadd, 1) := by decide +kernel
theorem dL_why_31 : decode cL_why 31 = .ok (.iaload, 1) := by decide +kernel
theorem dL_why_32 : decode cL_why 32 = .ok (.invokestatic 30, 3) := by decide +kernel
theorem dL_why_35 : decode cL_why 35 = .ok (.istore 7, 2) := by decide +kernel
theorem dL_why_37 : decode cL_why 37 = .ok (.aload 4, 2) := by decide +kernel
theorem dL_why_39 : decode cL_why 39 = .ok (.iload 6, 2) := by decide +kernel
theorem dL_why_41 : decode cL_why 41 = .ok (.iconst 1, 1) := by decide +kernel
theorem dL_why_42 : decode cL_why 42 = .ok (.iadd, 1) := by decide +kernel
theorem dL_why_43 : decode cL_why 43 = .ok (.iaload, 1) := by decide +kernel
theorem dL_why_44 : decode cL_why 44 = .ok (.istore 8, 2) := by decide +kernel
theorem dL_why_46 : decode cL_why 46 = .ok (.iload 7, 2) := by decide +kernel
theorem dL_why_48 : decode cL_why 48 = .ok (.bipush 119, 2) := by decide +kernel
theorem dL_why_50 : decode cL_why 50 = .ok (.if_icmp .ne 62, 3) := by decide +kernel
theorem dL_why_53 : decode cL_why 53 = .ok (.aload_n 2, 1) := by decide +kernel
theorem dL_why_54 : decode cL_why 54 = .ok (.iload 8, 2) := by decide +kernel
theorem dL_why_56 : decode cL_why 56 = .ok (.iaload, 1) := by decide +kernel
theorem dL_why_57 : decode cL_why 57 = .ok (.ifCond .eq 25, 3) := by decide +kernel
theorem dL_why_60 : decode cL_why 60 = .ok (.aload_n 2, 1) := by decide +kernel
theorem dL_why_61 : decode cL_why 61 = .ok (.bipush 6, 2) := by decide +kernel
theorem dL_why_63 : decode cL_why 63 = .ok (.iload 8, 2) := by decide +kernel
theorem dL_why_65 : decode cL_why 65 = .ok (.iadd, 1) := by decide +kernel
theorem dL_why_66 : decode cL_why 66 = .ok (.iaload, 1) := by decide +kernel
theorem dL_why_67 : decode cL_why 67 = .ok (.aload_n 1, 1) := by decide +kernel
theorem dL_why_68 : decode cL_why 68 = .ok (.iconst 1, 1) := by decide +kernel
theorem dL_why_69 : decode cL_why 69 = .ok (.iaload, 1) := by decide +kernel
theorem dL_why_70 : decode cL_why 70 = .ok (.if_icmp .ge 12, 3) := by decide +kernel
theorem dL_why_73 : decode cL_why 73 = .ok (.aload_n 1, 1) := by decide +kernel
theorem dL_why_74 : decode cL_why 74 = .ok (.iconst 4, 1) := by decide +kernel
theorem dL_why_75 : decode cL_why 75 = .ok (.iaload, 1) := by decide +kernel
theorem dL_why_76 : decode cL_why 76 = .ok (.sipush 400, 3) := by decide +kernel
theorem dL_why_79 : decode cL_why 79 = .ok (.if_icmp .ne 33, 3) := by decide +kernel
theorem dL_why_82 : decode cL_why 82 = .ok (.aload_n 2, 1) := by decide +kernel
theorem dL_why_83 : decode cL_why 83 = .ok (.iload 8, 2) := by decide +kernel
theorem dL_why_85 : decode cL_why 85 = .ok (.iaload, 1) := by decide +kernel
theorem dL_why_86 : decode cL_why 86 = .ok (.ifCond .ne 7, 3) := by decide +kernel
theorem dL_why_89 : decode cL_why 89 = .ok (.iconst 2, 1) := by decide +kernel
theorem dL_why_90 : decode cL_why 90 = .ok (.goto 21, 3) := by decide +kernel
theorem dL_why_93 : decode cL_why 93 = .ok (.aload_n 2, 1) := by decide +kernel
theorem dL_why_94 : decode cL_why 94 = .ok (.bipush 6, 2) := by decide +kernel
theorem dL_why_96 : decode cL_why 96 = .ok (.iload 8, 2) := by decide +kernel
theorem dL_why_98 : decode cL_why 98 = .ok (.iadd, 1) := by decide +kernel
theorem dL_why_99 : decode cL_why 99 = .ok (.iaload, 1) := by decide +kernel
theorem dL_why_100 : decode cL_why 100 = .ok (.aload_n 1, 1) := by decide +kernel
theorem dL_why_101 : decode cL_why 101 = .ok (.iconst 1, 1) := by decide +kernel
theorem dL_why_102 : decode cL_why 102 = .ok (.iaload, 1) := by decide +kernel
theorem dL_why_103 : decode cL_why 103 = .ok (.if_icmp .lt 7, 3) := by decide +kernel
theorem dL_why_106 : decode cL_why 106 = .ok (.iconst 3, 1) := by decide +kernel
theorem dL_why_107 : decode cL_why 107 = .ok (.goto 4, 3) := by decide +kernel
theorem dL_why_110 : decode cL_why 110 = .ok (.iconst 4, 1) := by decide +kernel
theorem dL_why_111 : decode cL_why 111 = .ok (.ireturn, 1) := by decide +kernel
theorem dL_why_112 : decode cL_why 112 = .ok (.iload 7, 2) := by decide +kernel
theorem dL_why_114 : decode cL_why 114 = .ok (.bipush 107, 2) := by decide +kernel
theorem dL_why_116 : decode cL_why 116 = .ok (.if_icmp .ne 69, 3) := by decide +kernel
theorem dL_why_119 : decode cL_why 119 = .ok (.aload 5, 2) := by decide +kernel
theorem dL_why_121 : decode cL_why 121 = .ok (.aload_n 1, 1) := by decide +kernel
theorem dL_why_122 : decode cL_why 122 = .ok (.iconst 3, 1) := by decide +kernel
theorem dL_why_123 : decode cL_why 123 = .ok (.iaload, 1) := by decide +kernel
theorem dL_why_124 : decode cL_why 124 = .ok (.iconst 1, 1) := by decide +kernel
theorem dL_why_125 : decode cL_why 125 = .ok (.isub, 1) := by decide +kernel
theorem dL_why_126 : decode cL_why 126 = .ok (.aload 4, 2) := by decide +kernel
theorem dL_why_128 : decode cL_why 128 = .ok (.iload 6, 2) := by decide +kernel
theorem dL_why_130 : decode cL_why 130 = .ok (.iconst 2, 1) := by decide +kernel
theorem dL_why_131 : decode cL_why 131 = .ok (.iadd, 1) := by decide +kernel
theorem dL_why_132 : decode cL_why 132 = .ok (.iaload, 1) := by decide +kernel
theorem dL_why_133 : decode cL_why 133 = .ok (.iconst 1, 1) := by decide +kernel
theorem dL_why_134 : decode cL_why 134 = .ok (.iadd, 1) := by decide +kernel
theorem dL_why_135 : decode cL_why 135 = .ok (.invokestatic 30, 3) := by decide +kernel
theorem dL_why_138 : decode cL_why 138 = .ok (.bipush 48, 2) := by decide +kernel
theorem dL_why_140 : decode cL_why 140 = .ok (.isub, 1) := by decide +kernel
theorem dL_why_141 : decode cL_why 141 = .ok (.istore 9, 2) := by decide +kernel
theorem dL_why_143 : decode cL_why 143 = .ok (.iload 9, 2) := by decide +kernel
theorem dL_why_145 : decode cL_why 145 = .ok (.iconst 4, 1) := by decide +kernel
theorem dL_why_146 : decode cL_why 146 = .ok (.if_icmp .gt 19, 3) := by decide +kernel
theorem dL_why_149 : decode cL_why 149 = .ok (.aload_n 3, 1) := by decide +kernel
theorem dL_why_150 : decode cL_why 150 = .ok (.iload 9, 2) := by decide +kernel
theorem dL_why_152 : decode cL_why 152 = .ok (.iaload, 1) := by decide +kernel
theorem dL_why_153 : decode cL_why 153 = .ok (.ifCond .eq 12, 3) := by decide +kernel
theorem dL_why_156 : decode cL_why 156 = .ok (.aload_n 1, 1) := by decide +kernel
theorem dL_why_157 : decode cL_why 157 = .ok (.iconst 3, 1) := by decide +kernel
theorem dL_why_158 : decode cL_why 158 = .ok (.iaload, 1) := by decide +kernel
theorem dL_why_159 : decode cL_why 159 = .ok (.aload_n 1, 1) := by decide +kernel
theorem dL_why_160 : decode cL_why 160 = .ok (.iconst 0, 1) := by decide +kernel
theorem dL_why_161 : decode cL_why 161 = .ok (.iaload, 1) := by decide +kernel
theorem dL_why_162 : decode cL_why 162 = .ok (.if_icmp .lt 23, 3) := by decide +kernel
theorem dL_why_165 : decode cL_why 165 = .ok (.iload 9, 2) := by decide +kernel
theorem dL_why_167 : decode cL_why 167 = .ok (.iconst 4, 1) := by decide +kernel
theorem dL_why_168 : decode cL_why 168 = .ok (.if_icmp .gt 10, 3) := by decide +kernel
theorem dL_why_171 : decode cL_why 171 = .ok (.aload_n 3, 1) := by decide +kernel
theorem dL_why_172 : decode cL_why 172 = .ok (.iload 9, 2) := by decide +kernel
theorem dL_why_174 : decode cL_why 174 = .ok (.iaload, 1) := by decide +kernel
theorem dL_why_175 : decode cL_why 175 = .ok (.ifCond .ne 7, 3) := by decide +kernel
theorem dL_why_178 : decode cL_why 178 = .ok (.iconst 5, 1) := by decide +kernel
theorem dL_why_179 : decode cL_why 179 = .ok (.goto 5, 3) := by decide +kernel
theorem dL_why_182 : decode cL_why 182 = .ok (.bipush 6, 2) := by decide +kernel
theorem dL_why_184 : decode cL_why 184 = .ok (.ireturn, 1) := by decide +kernel
theorem dL_why_185 : decode cL_why 185 = .ok (.iload_n 0, 1) := by decide +kernel
theorem dL_why_186 : decode cL_why 186 = .ok (.sipush 500, 3) := by decide +kernel
theorem dL_why_189 : decode cL_why 189 = .ok (.if_icmp .lt 8, 3) := by decide +kernel
theorem dL_why_192 : decode cL_why 192 = .ok (.bipush 7, 2) := by decide +kernel
theorem dL_why_194 : decode cL_why 194 = .ok (.goto 4, 3) := by decide +kernel
theorem dL_why_197 : decode cL_why 197 = .ok (.iconst 0, 1) := by decide +kernel
theorem dL_why_198 : decode cL_why 198 = .ok (.ireturn, 1) := by decide +kernel
theorem dL_begins_0 : decode cL_begins 0 = .ok (.aload 4, 2) := by decide +kernel
theorem dL_begins_2 : decode cL_begins 2 = .ok (.iload_n 2, 1) := by decide +kernel
theorem dL_begins_3 : decode cL_begins 3 = .ok (.iconst 2, 1) := by decide +kernel
theorem dL_begins_4 : decode cL_begins 4 = .ok (.aload_n 3, 1) := by decide +kernel
theorem dL_begins_5 : decode cL_begins 5 = .ok (.iload_n 2, 1) := by decide +kernel
theorem dL_begins_6 : decode cL_begins 6 = .ok (.iconst 4, 1) := by decide +kernel
theorem dL_begins_7 : decode cL_begins 7 = .ok (.iadd, 1) := by decide +kernel
theorem dL_begins_8 : decode cL_begins 8 = .ok (.iaload, 1) := by decide +kernel
theorem dL_begins_9 : decode cL_begins 9 = .ok (.imul, 1) := by decide +kernel
theorem dL_begins_10 : decode cL_begins 10 = .ok (.iadd, 1) := by decide +kernel
theorem dL_begins_11 : decode cL_begins 11 = .ok (.aload_n 3, 1) := by decide +kernel
theorem dL_begins_12 : decode cL_begins 12 = .ok (.iload_n 2, 1) := by decide +kernel
theorem dL_begins_13 : decode cL_begins 13 = .ok (.iconst 2, 1) := by decide +kernel
theorem dL_begins_14 : decode cL_begins 14 = .ok (.iadd, 1) := by decide +kernel
theorem dL_begins_15 : decode cL_begins 15 = .ok (.iaload, 1) := by decide +kernel
theorem dL_begins_16 : decode cL_begins 16 = .ok (.iastore, 1) := by decide +kernel
theorem dL_begins_17 : decode cL_begins 17 = .ok (.aload 4, 2) := by decide +kernel
theorem dL_begins_19 : decode cL_begins 19 = .ok (.iload_n 2, 1) := by decide +kernel
theorem dL_begins_20 : decode cL_begins 20 = .ok (.iconst 2, 1) := by decide +kernel
theorem dL_begins_21 : decode cL_begins 21 = .ok (.aload_n 3, 1) := by decide +kernel
theorem dL_begins_22 : decode cL_begins 22 = .ok (.iload_n 2, 1) := by decide +kernel
theorem dL_begins_23 : decode cL_begins 23 = .ok (.iconst 4, 1) := by decide +kernel
theorem dL_begins_24 : decode cL_begins 24 = .ok (.iadd, 1) := by decide +kernel
theorem dL_begins_25 : decode cL_begins 25 = .ok (.iaload, 1) := by decide +kernel
theorem dL_begins_26 : decode cL_begins 26 = .ok (.imul, 1) := by decide +kernel
theorem dL_begins_27 : decode cL_begins 27 = .ok (.iadd, 1) := by decide +kernel
theorem dL_begins_28 : decode cL_begins 28 = .ok (.iconst 1, 1) := by decide +kernel
theorem dL_begins_29 : decode cL_begins 29 = .ok (.iadd, 1) := by decide +kernel
theorem dL_begins_30 : decode cL_begins 30 = .ok (.iload_n 0, 1) := by decide +kernel
theorem dL_begins_31 : decode cL_begins 31 = .ok (.iastore, 1) := by decide +kernel
theorem dL_begins_32 : decode cL_begins 32 = .ok (.aload_n 3, 1) := by decide +kernel
theorem dL_begins_33 : decode cL_begins 33 = .ok (.iload_n 2, 1) := by decide +kernel
theorem dL_begins_34 : decode cL_begins 34 = .ok (.iconst 4, 1) := by decide +kernel
theorem dL_begins_35 : decode cL_begins 35 = .ok (.iadd, 1) := by decide +kernel
theorem dL_begins_36 : decode cL_begins 36 = .ok (.dup2, 1) := by decide +kernel
theorem dL_begins_37 : decode cL_begins 37 = .ok (.iaload, 1) := by decide +kernel
theorem dL_begins_38 : decode cL_begins 38 = .ok (.iconst 1, 1) := by decide +kernel
theorem dL_begins_39 : decode cL_begins 39 = .ok (.iadd, 1) := by decide +kernel
theorem dL_begins_40 : decode cL_begins 40 = .ok (.iastore, 1) := by decide +kernel
theorem dL_begins_41 : decode cL_begins 41 = .ok (.aload_n 3, 1) := by decide +kernel
theorem dL_begins_42 : decode cL_begins 42 = .ok (.iload_n 2, 1) := by decide +kernel
theorem dL_begins_43 : decode cL_begins 43 = .ok (.iconst 3, 1) := by decide +kernel
theorem dL_begins_44 : decode cL_begins 44 = .ok (.iadd, 1) := by decide +kernel
theorem dL_begins_45 : decode cL_begins 45 = .ok (.iconst 0, 1) := by decide +kernel
theorem dL_begins_46 : decode cL_begins 46 = .ok (.iastore, 1) := by decide +kernel
theorem dL_begins_47 : decode cL_begins 47 = .ok (.aload_n 3, 1) := by decide +kernel
theorem dL_begins_48 : decode cL_begins 48 = .ok (.iload_n 2, 1) := by decide +kernel
theorem dL_begins_49 : decode cL_begins 49 = .ok (.iconst 2, 1) := by decide +kernel
theorem dL_begins_50 : decode cL_begins 50 = .ok (.iadd, 1) := by decide +kernel
theorem dL_begins_51 : decode cL_begins 51 = .ok (.dup2, 1) := by decide +kernel
theorem dL_begins_52 : decode cL_begins 52 = .ok (.iaload, 1) := by decide +kernel
theorem dL_begins_53 : decode cL_begins 53 = .ok (.iload_n 1, 1) := by decide +kernel
theorem dL_begins_54 : decode cL_begins 54 = .ok (.iadd, 1) := by decide +kernel
theorem dL_begins_55 : decode cL_begins 55 = .ok (.iastore, 1) := by decide +kernel
theorem dL_begins_56 : decode cL_begins 56 = .ok (.return_, 1) := by decide +kernel
theorem dL_step_0 : decode cL_step 0 = .ok (.aload_n 0, 1) := by decide +kernel
theorem dL_step_1 : decode cL_step 1 = .ok (.iconst 3, 1) := by decide +kernel
theorem dL_step_2 : decode cL_step 2 = .ok (.iaload, 1) := by decide +kernel
theorem dL_step_3 : decode cL_step 3 = .ok (.iconst 1, 1) := by decide +kernel
theorem dL_step_4 : decode cL_step 4 = .ok (.isub, 1) := by decide +kernel
theorem dL_step_5 : decode cL_step 5 = .ok (.istore 8, 2) := by decide +kernel
theorem dL_step_7 : decode cL_step 7 = .ok (.bipush 6, 2) := by decide +kernel
theorem dL_step_9 : decode cL_step 9 = .ok (.iload 8, 2) := by decide +kernel
theorem dL_step_11 : decode cL_step 11 = .ok (.imul, 1) := by decide +kernel
theorem dL_step_12 : decode cL_step 12 = .ok (.istore 9, 2) := by decide +kernel
theorem dL_step_14 : decode cL_step 14 = .ok (.aload 4, 2) := by decide +kernel
theorem dL_step_16 : decode cL_step 16 = .ok (.iload 9, 2) := by decide +kernel
theorem dL_step_18 : decode cL_step 18 = .ok (.iconst 2, 1) := by decide +kernel
theorem dL_step_19 : decode cL_step 19 = .ok (.iadd, 1) := by decide +kernel
theorem dL_step_20 : decode cL_step 20 = .ok (.iaload, 1) := by decide +kernel
theorem dL_step_21 : decode cL_step 21 = .ok (.istore 10, 2) := by decide +kernel
theorem dL_step_23 : decode cL_step 23 = .ok (.aload 6, 2) := by decide +kernel
theorem dL_step_25 : decode cL_step 25 = .ok (.iload 8, 2) := by decide +kernel
theorem dL_step_27 : decode cL_step 27 = .ok (.iload 10, 2) := by decide +kernel
theorem dL_step_29 : decode cL_step 29 = .ok (.invokestatic 30, 3) := by decide +kernel
theorem dL_step_32 : decode cL_step 32 = .ok (.istore 11, 2) := by decide +kernel
theorem dL_step_34 : decode cL_step 34 = .ok (.aload 4, 2) := by decide +kernel
theorem dL_step_36 : decode cL_step 36 = .ok (.iload 9, 2) := by decide +kernel
theorem dL_step_38 : decode cL_step 38 = .ok (.iconst 1, 1) := by decide +kernel
theorem dL_step_39 : decode cL_step 39 = .ok (.iadd, 1) := by decide +kernel
theorem dL_step_40 : decode cL_step 40 = .ok (.iaload, 1) := by decide +kernel
theorem dL_step_41 : decode cL_step 41 = .ok (.istore 12, 2) := by decide +kernel
theorem dL_step_43 : decode cL_step 43 = .ok (.iload 11, 2) := by decide +kernel
theorem dL_step_45 : decode cL_step 45 = .ok (.bipush 119, 2) := by decide +kernel
theorem dL_step_47 : decode cL_step 47 = .ok (.if_icmp .ne 103, 3) := by decide +kernel
theorem dL_step_50 : decode cL_step 50 = .ok (.aload_n 1, 1) := by decide +kernel
theorem dL_step_51 : decode cL_step 51 = .ok (.iload 12, 2) := by decide +kernel
theorem dL_step_53 : decode cL_step 53 = .ok (.dup2, 1) := by decide +kernel
theorem dL_step_54 : decode cL_step 54 = .ok (.iaload, 1) := by decide +kernel
theorem dL_step_55 : decode cL_step 55 = .ok (.iconst 1, 1) := by decide +kernel
theorem dL_step_56 : decode cL_step 56 = .ok (.isub, 1) := by decide +kernel
theorem dL_step_57 : decode cL_step 57 = .ok (.iastore, 1) := by decide +kernel
theorem dL_step_58 : decode cL_step 58 = .ok (.aload_n 1, 1) := by decide +kernel
theorem dL_step_59 : decode cL_step 59 = .ok (.bipush 6, 2) := by decide +kernel
theorem dL_step_61 : decode cL_step 61 = .ok (.iload 12, 2) := by decide +kernel
theorem dL_step_63 : decode cL_step 63 = .ok (.iadd, 1) := by decide +kernel
theorem dL_step_64 : decode cL_step 64 = .ok (.dup2, 1) := by decide +kernel
theorem dL_step_65 : decode cL_step 65 = .ok (.iaload, 1) := by decide +kernel
theorem dL_step_66 : decode cL_step 66 = .ok (.iconst 1, 1) := by decide +kernel
theorem dL_step_67 : decode cL_step 67 = .ok (.iadd, 1) := by decide +kernel
theorem dL_step_68 : decode cL_step 68 = .ok (.iastore, 1) := by decide +kernel
theorem dL_step_69 : decode cL_step 69 = .ok (.aload_n 1, 1) := by decide +kernel
theorem dL_step_70 : decode cL_step 70 = .ok (.bipush 18, 2) := by decide +kernel
theorem dL_step_72 : decode cL_step 72 = .ok (.iload 12, 2) := by decide +kernel
theorem dL_step_74 : decode cL_step 74 = .ok (.iadd, 1) := by decide +kernel
theorem dL_step_75 : decode cL_step 75 = .ok (.dup2, 1) := by decide +kernel
theorem dL_step_76 : decode cL_step 76 = .ok (.iaload, 1) := by decide +kernel
theorem dL_step_77 : decode cL_step 77 = .ok (.iconst 1, 1) := by decide +kernel
theorem dL_step_78 : decode cL_step 78 = .ok (.iadd, 1) := by decide +kernel
theorem dL_step_79 : decode cL_step 79 = .ok (.iastore, 1) := by decide +kernel
theorem dL_step_80 : decode cL_step 80 = .ok (.aload_n 0, 1) := by decide +kernel
theorem dL_step_81 : decode cL_step 81 = .ok (.iconst 5, 1) := by decide +kernel
theorem dL_step_82 : decode cL_step 82 = .ok (.dup2, 1) := by decide +kernel
theorem dL_step_83 : decode cL_step 83 = .ok (.iaload, 1) := by decide +kernel
theorem dL_step_84 : decode cL_step 84 = .ok (.iconst 1, 1) := by decide +kernel
theorem dL_step_85 : decode cL_step 85 = .ok (.iadd, 1) := by decide +kernel
theorem dL_step_86 : decode cL_step 86 = .ok (.iastore, 1) := by decide +kernel
theorem dL_step_87 : decode cL_step 87 = .ok (.aload 7, 2) := by decide +kernel
theorem dL_step_89 : decode cL_step 89 = .ok (.aload_n 0, 1) := by decide +kernel
theorem dL_step_90 : decode cL_step 90 = .ok (.iconst 4, 1) := by decide +kernel
theorem dL_step_91 : decode cL_step 91 = .ok (.iaload, 1) := by decide +kernel
theorem dL_step_92 : decode cL_step 92 = .ok (.bipush 10, 2) := by decide +kernel
theorem dL_step_94 : decode cL_step 94 = .ok (.idiv, 1) := by decide +kernel
theorem dL_step_95 : decode cL_step 95 = .ok (.aload 7, 2) := by decide +kernel
theorem dL_step_97 : decode cL_step 97 = .ok (.aload_n 0, 1) := by decide +kernel
theorem dL_step_98 : decode cL_step 98 = .ok (.iconst 4, 1) := by decide +kernel
theorem dL_step_99 : decode cL_step 99 = .ok (.iaload, 1) := by decide +kernel
theorem dL_step_100 : decode cL_step 100 = .ok (.bipush 10, 2) := by decide +kernel
theorem dL_step_102 : decode cL_step 102 = .ok (.idiv, 1) := by decide +kernel
theorem dL_step_103 : decode cL_step 103 = .ok (.iaload, 1) := by decide +kernel
theorem dL_step_104 : decode cL_step 104 = .ok (.bipush 7, 2) := by decide +kernel
theorem dL_step_106 : decode cL_step 106 = .ok (.iconst 3, 1) := by decide +kernel
theorem dL_step_107 : decode cL_step 107 = .ok (.aload_n 0, 1) := by decide +kernel
theorem dL_step_108 : decode cL_step 108 = .ok (.iconst 4, 1) := by decide +kernel
theorem dL_step_109 : decode cL_step 109 = .ok (.iaload, 1) := by decide +kernel
theorem dL_step_110 : decode cL_step 110 = .ok (.bipush 10, 2) := by decide +kernel
theorem dL_step_112 : decode cL_step 112 = .ok (.irem, 1) := by decide +kernel
theorem dL_step_113 : decode cL_step 113 = .ok (.imul, 1) := by decide +kernel
theorem dL_step_114 : decode cL_step 114 = .ok (.ishl, 1) := by decide +kernel
theorem dL_step_115 : decode cL_step 115 = .ok (.iconst (-1), 1) := by decide +kernel
theorem dL_step_116 : decode cL_step 116 = .ok (.ixor, 1) := by decide +kernel
theorem dL_step_117 : decode cL_step 117 = .ok (.iand, 1) := by decide +kernel
theorem dL_step_118 : decode cL_step 118 = .ok (.iload 12, 2) := by decide +kernel
theorem dL_step_120 : decode cL_step 120 = .ok (.iconst 3, 1) := by decide +kernel
theorem dL_step_121 : decode cL_step 121 = .ok (.aload_n 0, 1) := by decide +kernel
theorem dL_step_122 : decode cL_step 122 = .ok (.iconst 4, 1) := by decide +kernel
theorem dL_step_123 : decode cL_step 123 = .ok (.iaload, 1) := by decide +kernel
theorem dL_step_124 : decode cL_step 124 = .ok (.bipush 10, 2) := by decide +kernel
theorem dL_step_126 : decode cL_step 126 = .ok (.irem, 1) := by decide +kernel
theorem dL_step_127 : decode cL_step 127 = .ok (.imul, 1) := by decide +kernel
theorem dL_step_128 : decode cL_step 128 = .ok (.ishl, 1) := by decide +kernel
theorem dL_step_129 : decode cL_step 129 = .ok (.ior, 1) := by decide +kernel
theorem dL_step_130 : decode cL_step 130 = .ok (.iastore, 1) := by decide +kernel
theorem dL_step_131 : decode cL_step 131 = .ok (.aload_n 0, 1) := by decide +kernel
theorem dL_step_132 : decode cL_step 132 = .ok (.iconst 4, 1) := by decide +kernel
theorem dL_step_133 : decode cL_step 133 = .ok (.dup2, 1) := by decide +kernel
theorem dL_step_134 : decode cL_step 134 = .ok (.iaload, 1) := by decide +kernel
theorem dL_step_135 : decode cL_step 135 = .ok (.iconst 1, 1) := by decide +kernel
theorem dL_step_136 : decode cL_step 136 = .ok (.iadd, 1) := by decide +kernel
theorem dL_step_137 : decode cL_step 137 = .ok (.iastore, 1) := by decide +kernel
theorem dL_step_138 : decode cL_step 138 = .ok (.iload 8, 2) := by decide +kernel
theorem dL_step_140 : decode cL_step 140 = .ok (.aload 4, 2) := by decide +kernel
theorem dL_step_142 : decode cL_step 142 = .ok (.aload 6, 2) := by decide +kernel
theorem dL_step_144 : decode cL_step 144 = .ok (.invokestatic 38, 3) := by decide +kernel
theorem dL_step_147 : decode cL_step 147 = .ok (.goto 204, 3) := by decide +kernel
theorem dL_step_150 : decode cL_step 150 = .ok (.iload 11, 2) := by decide +kernel
theorem dL_step_152 : decode cL_step 152 = .ok (.bipush 99, 2) := by decide +kernel
theorem dL_step_154 : decode cL_step 154 = .ok (.if_icmp .ne 38, 3) := by decide +kernel
theorem dL_step_157 : decode cL_step 157 = .ok (.aload 4, 2) := by decide +kernel
theorem dL_step_159 : decode cL_step 159 = .ok (.iload 9, 2) := by decide +kernel
theorem dL_step_161 : decode cL_step 161 = .ok (.iconst 1, 1) := by decide +kernel
theorem dL_step_162 : decode cL_step 162 = .ok (.iadd, 1) := by decide +kernel
theorem dL_step_163 : decode cL_step 163 = .ok (.aload 6, 2) := by decide +kernel
theorem dL_step_165 : decode cL_step 165 = .ok (.iload 8, 2) := by decide +kernel
theorem dL_step_167 : decode cL_step 167 = .ok (.iload 10, 2) := by decide +kernel
theorem dL_step_169 : decode cL_step 169 = .ok (.iconst 1, 1) := by decide +kernel
theorem dL_step_170 : decode cL_step 170 = .ok (.iadd, 1) := by decide +kernel
theorem dL_step_171 : decode cL_step 171 = .ok (.invokestatic 30, 3) := by decide +kernel
theorem dL_step_174 : decode cL_step 174 = .ok (.bipush 48, 2) := by decide +kernel
theorem dL_step_176 : decode cL_step 176 = .ok (.isub, 1) := by decide +kernel
theorem dL_step_177 : decode cL_step 177 = .ok (.iastore, 1) := by decide +kernel
theorem dL_step_178 : decode cL_step 178 = .ok (.aload 4, 2) := by decide +kernel
theorem dL_step_180 : decode cL_step 180 = .ok (.iload 9, 2) := by decide +kernel
theorem dL_step_182 : decode cL_step 182 = .ok (.iconst 2, 1) := by decide +kernel
theorem dL_step_183 : decode cL_step 183 = .ok (.iadd, 1) := by decide +kernel
theorem dL_step_184 : decode cL_step 184 = .ok (.dup2, 1) := by decide +kernel
theorem dL_step_185 : decode cL_step 185 = .ok (.iaload, 1) := by decide +kernel
theorem dL_step_186 : decode cL_step 186 = .ok (.iconst 2, 1) := by decide +kernel
theorem dL_step_187 : decode cL_step 187 = .ok (.iadd, 1) := by decide +kernel
theorem dL_step_188 : decode cL_step 188 = .ok (.iastore, 1) := by decide +kernel
theorem dL_step_189 : decode cL_step 189 = .ok (.goto 162, 3) := by decide +kernel
theorem dL_step_192 : decode cL_step 192 = .ok (.iload 11, 2) := by decide +kernel
theorem dL_step_194 : decode cL_step 194 = .ok (.bipush 107, 2) := by decide +kernel
theorem dL_step_196 : decode cL_step 196 = .ok (.if_icmp .ne 40, 3) := by decide +kernel
theorem dL_step_199 : decode cL_step 199 = .ok (.aload_n 0, 1) := by decide +kernel
theorem dL_step_200 : decode cL_step 200 = .ok (.bipush 7, 2) := by decide +kernel
theorem dL_step_202 : decode cL_step 202 = .ok (.dup2, 1) := by decide +kernel
theorem dL_step_203 : decode cL_step 203 = .ok (.iaload, 1) := by decide +kernel
theorem dL_step_204 : decode cL_step 204 = .ok (.iconst 1, 1) := by decide +kernel
theorem dL_step_205 : decode cL_step 205 = .ok (.iadd, 1) := by decide +kernel
theorem dL_step_206 : decode cL_step 206 = .ok (.iastore, 1) := by decide +kernel
theorem dL_step_207 : decode cL_step 207 = .ok (.aload 6, 2) := by decide +kernel
theorem dL_step_209 : decode cL_step 209 = .ok (.iload 8, 2) := by decide +kernel
theorem dL_step_211 : decode cL_step 211 = .ok (.iload 10, 2) := by decide +kernel
theorem dL_step_213 : decode cL_step 213 = .ok (.iconst 1, 1) := by decide +kernel
theorem dL_step_214 : decode cL_step 214 = .ok (.iadd, 1) := by decide +kernel
theorem dL_step_215 : decode cL_step 215 = .ok (.invokestatic 30, 3) := by decide +kernel
theorem dL_step_218 : decode cL_step 218 = .ok (.bipush 48, 2) := by decide +kernel
theorem dL_step_220 : decode cL_step 220 = .ok (.isub, 1) := by decide +kernel
theorem dL_step_221 : decode cL_step 221 = .ok (.iload 12, 2) := by decide +kernel
theorem dL_step_223 : decode cL_step 223 = .ok (.aload_n 0, 1) := by decide +kernel
theorem dL_step_224 : decode cL_step 224 = .ok (.aload_n 2, 1) := by decide +kernel
theorem dL_step_225 : decode cL_step 225 = .ok (.aload_n 3, 1) := by decide +kernel
theorem dL_step_226 : decode cL_step 226 = .ok (.aload 4, 2) := by decide +kernel
theorem dL_step_228 : decode cL_step 228 = .ok (.aload 6, 2) := by decide +kernel
theorem dL_step_230 : decode cL_step 230 = .ok (.invokestatic 42, 3) := by decide +kernel
theorem dL_step_233 : decode cL_step 233 = .ok (.goto 118, 3) := by decide +kernel
theorem dL_step_236 : decode cL_step 236 = .ok (.iload 11, 2) := by decide +kernel
theorem dL_step_238 : decode cL_step 238 = .ok (.bipush 120, 2) := by decide +kernel
theorem dL_step_240 : decode cL_step 240 = .ok (.if_icmp .ne 51, 3) := by decide +kernel
theorem dL_step_243 : decode cL_step 243 = .ok (.aload 4, 2) := by decide +kernel
theorem dL_step_245 : decode cL_step 245 = .ok (.iload 9, 2) := by decide +kernel
theorem dL_step_247 : decode cL_step 247 = .ok (.iconst 3, 1) := by decide +kernel
theorem dL_step_248 : decode cL_step 248 = .ok (.iadd, 1) := by decide +kernel
theorem dL_step_249 : decode cL_step 249 = .ok (.iaload, 1) := by decide +kernel
theorem dL_step_250 : decode cL_step 250 = .ok (.ifCond .le 15, 3) := by decide +kernel
theorem dL_step_253 : decode cL_step 253 = .ok (.aload 4, 2) := by decide +kernel
theorem dL_step_255 : decode cL_step 255 = .ok (.iload 9, 2) := by decide +kernel
theorem dL_step_257 : decode cL_step 257 = .ok (.iconst 3, 1) := by decide +kernel
theorem dL_step_258 : decode cL_step 258 = .ok (.iadd, 1) := by decide +kernel
theorem dL_step_259 : decode cL_step 259 = .ok (.iaload, 1) := by decide +kernel
theorem dL_step_260 : decode cL_step 260 = .ok (.iconst 1, 1) := by decide +kernel
theorem dL_step_261 : decode cL_step 261 = .ok (.isub, 1) := by decide +kernel
theorem dL_step_262 : decode cL_step 262 = .ok (.goto 16, 3) := by decide +kernel
theorem dL_step_265 : decode cL_step 265 = .ok (.iload 8, 2) := by decide +kernel
theorem dL_step_267 : decode cL_step 267 = .ok (.iload 10, 2) := by decide +kernel
theorem dL_step_269 : decode cL_step 269 = .ok (.aload 4, 2) := by decide +kernel
theorem dL_step_271 : decode cL_step 271 = .ok (.aload 6, 2) := by decide +kernel
theorem dL_step_273 : decode cL_step 273 = .ok (.invokestatic 34, 3) := by decide +kernel
theorem dL_step_276 : decode cL_step 276 = .ok (.iconst 1, 1) := by decide +kernel
theorem dL_step_277 : decode cL_step 277 = .ok (.isub, 1) := by decide +kernel
theorem dL_step_278 : decode cL_step 278 = .ok (.iconst 3, 1) := by decide +kernel
theorem dL_step_279 : decode cL_step 279 = .ok (.iload 9, 2) := by decide +kernel
theorem dL_step_281 : decode cL_step 281 = .ok (.aload 4, 2) := by decide +kernel
theorem dL_step_283 : decode cL_step 283 = .ok (.aload 5, 2) := by decide +kernel
theorem dL_step_285 : decode cL_step 285 = .ok (.invokestatic 46, 3) := by decide +kernel
theorem dL_step_288 : decode cL_step 288 = .ok (.goto 63, 3) := by decide +kernel
theorem dL_step_291 : decode cL_step 291 = .ok (.aload_n 1, 1) := by decide +kernel
theorem dL_step_292 : decode cL_step 292 = .ok (.iload 12, 2) := by decide +kernel
theorem dL_step_294 : decode cL_step 294 = .ok (.iaload, 1) := by decide +kernel
theorem dL_step_295 : decode cL_step 295 = .ok (.aload_n 0, 1) := by decide +kernel
theorem dL_step_296 : decode cL_step 296 = .ok (.iconst 2, 1) := by decide +kernel
theorem dL_step_297 : decode cL_step 297 = .ok (.iaload, 1) := by decide +kernel
theorem dL_step_298 : decode cL_step 298 = .ok (.if_icmp .ge 7, 3) := by decide +kernel
theorem dL_step_301 : decode cL_step 301 = .ok (.iconst 1, 1) := by decide +kernel
theorem dL_step_302 : decode cL_step 302 = .ok (.goto 4, 3) := by decide +kernel
theorem dL_step_305 : decode cL_step 305 = .ok (.iconst 0, 1) := by decide +kernel
theorem dL_step_306 : decode cL_step 306 = .ok (.iload 11, 2) := by decide +kernel
theorem dL_step_308 : decode cL_step 308 = .ok (.bipush 115, 2) := by decide +kernel
theorem dL_step_310 : decode cL_step 310 = .ok (.if_icmp .ne 7, 3) := by decide +kernel
theorem dL_step_313 : decode cL_step 313 = .ok (.iconst 1, 1) := by decide +kernel
theorem dL_step_314 : decode cL_step 314 = .ok (.goto 4, 3) := by decide +kernel
theorem dL_step_317 : decode cL_step 317 = .ok (.iconst 0, 1) := by decide +kernel
theorem dL_step_318 : decode cL_step 318 = .ok (.if_icmp .ne 17, 3) := by decide +kernel
theorem dL_step_321 : decode cL_step 321 = .ok (.iconst 0, 1) := by decide +kernel
theorem dL_step_322 : decode cL_step 322 = .ok (.iconst 2, 1) := by decide +kernel
theorem dL_step_323 : decode cL_step 323 = .ok (.iload 9, 2) := by decide +kernel
theorem dL_step_325 : decode cL_step 325 = .ok (.aload 4, 2) := by decide +kernel
theorem dL_step_327 : decode cL_step 327 = .ok (.aload 5, 2) := by decide +kernel
theorem dL_step_329 : decode cL_step 329 = .ok (.invokestatic 46, 3) := by decide +kernel
theorem dL_step_332 : decode cL_step 332 = .ok (.goto 19, 3) := by decide +kernel
theorem dL_step_335 : decode cL_step 335 = .ok (.aload 4, 2) := by decide +kernel
theorem dL_step_337 : decode cL_step 337 = .ok (.iload 9, 2) := by decide +kernel
theorem dL_step_339 : decode cL_step 339 = .ok (.iconst 2, 1) := by decide +kernel
theorem dL_step_340 : decode cL_step 340 = .ok (.iadd, 1) := by decide +kernel
theorem dL_step_341 : decode cL_step 341 = .ok (.iload 8, 2) := by decide +kernel
theorem dL_step_343 : decode cL_step 343 = .ok (.iload 10, 2) := by decide +kernel
theorem dL_step_345 : decode cL_step 345 = .ok (.aload 6, 2) := by decide +kernel
theorem dL_step_347 : decode cL_step 347 = .ok (.invokestatic 50, 3) := by decide +kernel
theorem dL_step_350 : decode cL_step 350 = .ok (.iastore, 1) := by decide +kernel
theorem dL_step_351 : decode cL_step 351 = .ok (.aload_n 0, 1) := by decide +kernel
theorem dL_step_352 : decode cL_step 352 = .ok (.aload 4, 2) := by decide +kernel
theorem dL_step_354 : decode cL_step 354 = .ok (.aload 5, 2) := by decide +kernel
theorem dL_step_356 : decode cL_step 356 = .ok (.aload 6, 2) := by decide +kernel
theorem dL_step_358 : decode cL_step 358 = .ok (.invokestatic 54, 3) := by decide +kernel
theorem dL_step_361 : decode cL_step 361 = .ok (.return_, 1) := by decide +kernel
theorem dL_weaves_0 : decode cL_weaves 0 = .ok (.aload_n 1, 1) := by decide +kernel
theorem dL_weaves_1 : decode cL_weaves 1 = .ok (.iconst 5, 1) := by decide +kernel
theorem dL_weaves_2 : decode cL_weaves 2 = .ok (.iaload, 1) := by decide +kernel
theorem dL_weaves_3 : decode cL_weaves 3 = .ok (.istore 9, 2) := by decide +kernel
theorem dL_weaves_5 : decode cL_weaves 5 = .ok (.iconst 0, 1) := by decide +kernel
theorem dL_weaves_6 : decode cL_weaves 6 = .ok (.istore 10, 2) := by decide +kernel
theorem dL_weaves_8 : decode cL_weaves 8 = .ok (.aload_n 1, 1) := by decide +kernel
theorem dL_weaves_9 : decode cL_weaves 9 = .ok (.bipush 8, 2) := by decide +kernel
theorem dL_weaves_11 : decode cL_weaves 11 = .ok (.iconst 0, 1) := by decide +kernel
theorem dL_weaves_12 : decode cL_weaves 12 = .ok (.iastore, 1) := by decide +kernel
theorem dL_weaves_13 : decode cL_weaves 13 = .ok (.aload_n 1, 1) := by decide +kernel
theorem dL_weaves_14 : decode cL_weaves 14 = .ok (.iconst 5, 1) := by decide +kernel
theorem dL_weaves_15 : decode cL_weaves 15 = .ok (.iaload, 1) := by decide +kernel
theorem dL_weaves_16 : decode cL_weaves 16 = .ok (.iload 9, 2) := by decide +kernel
theorem dL_weaves_18 : decode cL_weaves 18 = .ok (.isub, 1) := by decide +kernel
theorem dL_weaves_19 : decode cL_weaves 19 = .ok (.iload_n 0, 1) := by decide +kernel
theorem dL_weaves_20 : decode cL_weaves 20 = .ok (.if_icmp .ge 76, 3) := by decide +kernel
theorem dL_weaves_23 : decode cL_weaves 23 = .ok (.aload_n 1, 1) := by decide +kernel
theorem dL_weaves_24 : decode cL_weaves 24 = .ok (.bipush 8, 2) := by decide +kernel
theorem dL_weaves_26 : decode cL_weaves 26 = .ok (.iaload, 1) := by decide +kernel
theorem dL_weaves_27 : decode cL_weaves 27 = .ok (.ifCond .ne 69, 3) := by decide +kernel
theorem dL_weaves_30 : decode cL_weaves 30 = .ok (.aload_n 1, 1) := by decide +kernel
theorem dL_weaves_31 : decode cL_weaves 31 = .ok (.iconst 5, 1) := by decide +kernel
theorem dL_weaves_32 : decode cL_weaves 32 = .ok (.iaload, 1) := by decide +kernel
theorem dL_weaves_33 : decode cL_weaves 33 = .ok (.istore 11, 2) := by decide +kernel
theorem dL_weaves_35 : decode cL_weaves 35 = .ok (.aload_n 1, 1) := by decide +kernel
theorem dL_weaves_36 : decode cL_weaves 36 = .ok (.bipush 8, 2) := by decide +kernel
theorem dL_weaves_38 : decode cL_weaves 38 = .ok (.iload 10, 2) := by decide +kernel
theorem dL_weaves_40 : decode cL_weaves 40 = .ok (.aload_n 1, 1) := by decide +kernel
theorem dL_weaves_41 : decode cL_weaves 41 = .ok (.aload_n 2, 1) := by decide +kernel
theorem dL_weaves_42 : decode cL_weaves 42 = .ok (.aload 4, 2) := by decide +kernel
theorem dL_weaves_44 : decode cL_weaves 44 = .ok (.aload 5, 2) := by decide +kernel
theorem dL_weaves_46 : decode cL_weaves 46 = .ok (.aload 7, 2) := by decide +kernel
theorem dL_weaves_48 : decode cL_weaves 48 = .ok (.invokestatic 58, 3) := by decide +kernel
theorem dL_weaves_51 : decode cL_weaves 51 = .ok (.iastore, 1) := by decide +kernel
theorem dL_weaves_52 : decode cL_weaves 52 = .ok (.aload_n 1, 1) := by decide +kernel
theorem dL_weaves_53 : decode cL_weaves 53 = .ok (.bipush 8, 2) := by decide +kernel
theorem dL_weaves_55 : decode cL_weaves 55 = .ok (.iaload, 1) := by decide +kernel
theorem dL_weaves_56 : decode cL_weaves 56 = .ok (.ifCond .ne 19, 3) := by decide +kernel
theorem dL_weaves_59 : decode cL_weaves 59 = .ok (.aload_n 1, 1) := by decide +kernel
theorem dL_weaves_60 : decode cL_weaves 60 = .ok (.aload_n 2, 1) := by decide +kernel
theorem dL_weaves_61 : decode cL_weaves 61 = .ok (.aload_n 3, 1) := by decide +kernel
theorem dL_weaves_62 : decode cL_weaves 62 = .ok (.aload 4, 2) := by decide +kernel
theorem dL_weaves_64 : decode cL_weaves 64 = .ok (.aload 5, 2) := by decide +kernel
theorem dL_weaves_66 : decode cL_weaves 66 = .ok (.aload 6, 2) := by decide +kernel
theorem dL_weaves_68 : decode cL_weaves 68 = .ok (.aload 7, 2) := by decide +kernel
theorem dL_weaves_70 : decode cL_weaves 70 = .ok (.aload 8, 2) := by decide +kernel
theorem dL_weaves_72 : decode cL_weaves 72 = .ok (.invokestatic 62, 3) := by decide +kernel
theorem dL_weaves_75 : decode cL_weaves 75 = .ok (.aload_n 1, 1) := by decide +kernel
theorem dL_weaves_76 : decode cL_weaves 76 = .ok (.iconst 5, 1) := by decide +kernel
theorem dL_weaves_77 : decode cL_weaves 77 = .ok (.iaload, 1) := by decide +kernel
theorem dL_weaves_78 : decode cL_weaves 78 = .ok (.iload 11, 2) := by decide +kernel
theorem dL_weaves_80 : decode cL_weaves 80 = .ok (.if_icmp .le 7, 3) := by decide +kernel
theorem dL_weaves_83 : decode cL_weaves 83 = .ok (.iconst 0, 1) := by decide +kernel
theorem dL_weaves_84 : decode cL_weaves 84 = .ok (.goto 7, 3) := by decide +kernel
theorem dL_weaves_87 : decode cL_weaves 87 = .ok (.iload 10, 2) := by decide +kernel
theorem dL_weaves_89 : decode cL_weaves 89 = .ok (.iconst 1, 1) := by decide +kernel
theorem dL_weaves_90 : decode cL_weaves 90 = .ok (.iadd, 1) := by decide +kernel
theorem dL_weaves_91 : decode cL_weaves 91 = .ok (.istore 10, 2) := by decide +kernel
theorem dL_weaves_93 : decode cL_weaves 93 = .ok (.goto (-80), 3) := by decide +kernel
theorem dL_weaves_96 : decode cL_weaves 96 = .ok (.aload_n 1, 1) := by decide +kernel
theorem dL_weaves_97 : decode cL_weaves 97 = .ok (.iconst 5, 1) := by decide +kernel
theorem dL_weaves_98 : decode cL_weaves 98 = .ok (.iaload, 1) := by decide +kernel
theorem dL_weaves_99 : decode cL_weaves 99 = .ok (.iload 9, 2) := by decide +kernel
theorem dL_weaves_101 : decode cL_weaves 101 = .ok (.isub, 1) := by decide +kernel
theorem dL_weaves_102 : decode cL_weaves 102 = .ok (.ireturn, 1) := by decide +kernel
theorem dL_call_0 : decode cL_call 0 = .ok (.iload_n 1, 1) := by decide +kernel
theorem dL_call_1 : decode cL_call 1 = .ok (.tableswitch 84 0 6 #[43, 49, 55, 61, 68, 73, 79], 43) := by decide +kernel
theorem dL_call_44 : decode cL_call 44 = .ok (.aload_n 0, 1) := by decide +kernel
theorem dL_call_45 : decode cL_call 45 = .ok (.iload_n 2, 1) := by decide +kernel
theorem dL_call_46 : decode cL_call 46 = .ok (.invokevirtual 66, 3) := by decide +kernel
theorem dL_call_49 : decode cL_call 49 = .ok (.ireturn, 1) := by decide +kernel
theorem dL_call_50 : decode cL_call 50 = .ok (.aload_n 0, 1) := by decide +kernel
theorem dL_call_51 : decode cL_call 51 = .ok (.iload_n 2, 1) := by decide +kernel
theorem dL_call_52 : decode cL_call 52 = .ok (.invokevirtual 70, 3) := by decide +kernel
theorem dL_call_55 : decode cL_call 55 = .ok (.ireturn, 1) := by decide +kernel
theorem dL_call_56 : decode cL_call 56 = .ok (.aload_n 0, 1) := by decide +kernel
theorem dL_call_57 : decode cL_call 57 = .ok (.iload_n 3, 1) := by decide +kernel
theorem dL_call_58 : decode cL_call 58 = .ok (.invokevirtual 73, 3) := by decide +kernel
theorem dL_call_61 : decode cL_call 61 = .ok (.ireturn, 1) := by decide +kernel
theorem dL_call_62 : decode cL_call 62 = .ok (.aload_n 0, 1) := by decide +kernel
theorem dL_call_63 : decode cL_call 63 = .ok (.iload_n 2, 1) := by decide +kernel
theorem dL_call_64 : decode cL_call 64 = .ok (.iload_n 3, 1) := by decide +kernel
theorem dL_call_65 : decode cL_call 65 = .ok (.invokevirtual 76, 3) := by decide +kernel
theorem dL_call_68 : decode cL_call 68 = .ok (.ireturn, 1) := by decide +kernel
theorem dL_call_69 : decode cL_call 69 = .ok (.aload_n 0, 1) := by decide +kernel
theorem dL_call_70 : decode cL_call 70 = .ok (.invokevirtual 79, 3) := by decide +kernel
theorem dL_call_73 : decode cL_call 73 = .ok (.ireturn, 1) := by decide +kernel
theorem dL_call_74 : decode cL_call 74 = .ok (.aload_n 0, 1) := by decide +kernel
theorem dL_call_75 : decode cL_call 75 = .ok (.iload_n 2, 1) := by decide +kernel
theorem dL_call_76 : decode cL_call 76 = .ok (.invokevirtual 82, 3) := by decide +kernel
theorem dL_call_79 : decode cL_call 79 = .ok (.ireturn, 1) := by decide +kernel
theorem dL_call_80 : decode cL_call 80 = .ok (.aload_n 0, 1) := by decide +kernel
theorem dL_call_81 : decode cL_call 81 = .ok (.invokevirtual 85, 3) := by decide +kernel
theorem dL_call_84 : decode cL_call 84 = .ok (.ireturn, 1) := by decide +kernel
theorem dL_call_85 : decode cL_call 85 = .ok (.aload_n 0, 1) := by decide +kernel
theorem dL_call_86 : decode cL_call 86 = .ok (.iload_n 2, 1) := by decide +kernel
theorem dL_call_87 : decode cL_call 87 = .ok (.iload_n 3, 1) := by decide +kernel
theorem dL_call_88 : decode cL_call 88 = .ok (.invokevirtual 88, 3) := by decide +kernel
theorem dL_call_91 : decode cL_call 91 = .ok (.ireturn, 1) := by decide +kernel
theorem dL_callers_0 : decode cL_callers 0 = .ok (.iconst 0, 1) := by decide +kernel
theorem dL_callers_1 : decode cL_callers 1 = .ok (.istore_n 3, 1) := by decide +kernel
theorem dL_callers_2 : decode cL_callers 2 = .ok (.iconst 0, 1) := by decide +kernel
theorem dL_callers_3 : decode cL_callers 3 = .ok (.istore 4, 2) := by decide +kernel
theorem dL_callers_5 : decode cL_callers 5 = .ok (.iload 4, 2) := by decide +kernel
theorem dL_callers_7 : decode cL_callers 7 = .ok (.iconst 5, 1) := by decide +kernel
theorem dL_callers_8 : decode cL_callers 8 = .ok (.if_icmp .ge 26, 3) := by decide +kernel
theorem dL_callers_11 : decode cL_callers 11 = .ok (.iload_n 3, 1) := by decide +kernel
theorem dL_callers_12 : decode cL_callers 12 = .ok (.iload 4, 2) := by decide +kernel
theorem dL_callers_14 : decode cL_callers 14 = .ok (.aload_n 1, 1) := by decide +kernel
theorem dL_callers_15 : decode cL_callers 15 = .ok (.aload_n 2, 1) := by decide +kernel
theorem dL_callers_16 : decode cL_callers 16 = .ok (.invokestatic 91, 3) := by decide +kernel
theorem dL_callers_19 : decode cL_callers 19 = .ok (.iload_n 0, 1) := by decide +kernel
theorem dL_callers_20 : decode cL_callers 20 = .ok (.ishr, 1) := by decide +kernel
theorem dL_callers_21 : decode cL_callers 21 = .ok (.iconst 1, 1) := by decide +kernel
theorem dL_callers_22 : decode cL_callers 22 = .ok (.iand, 1) := by decide +kernel
theorem dL_callers_23 : decode cL_callers 23 = .ok (.iload 4, 2) := by decide +kernel
theorem dL_callers_25 : decode cL_callers 25 = .ok (.ishl, 1) := by decide +kernel
theorem dL_callers_26 : decode cL_callers 26 = .ok (.ior, 1) := by decide +kernel
theorem dL_callers_27 : decode cL_callers 27 = .ok (.istore_n 3, 1) := by decide +kernel
theorem dL_callers_28 : decode cL_callers 28 = .ok (.iinc 4 1, 3) := by decide +kernel
theorem dL_callers_31 : decode cL_callers 31 = .ok (.goto (-26), 3) := by decide +kernel
theorem dL_callers_34 : decode cL_callers 34 = .ok (.iload_n 3, 1) := by decide +kernel
theorem dL_callers_35 : decode cL_callers 35 = .ok (.ireturn, 1) := by decide +kernel
theorem dL_due_0 : decode cL_due 0 = .ok (.iload_n 0, 1) := by decide +kernel
theorem dL_due_1 : decode cL_due 1 = .ok (.iconst 1, 1) := by decide +kernel
theorem dL_due_2 : decode cL_due 2 = .ok (.if_icmp .ne 39, 3) := by decide +kernel
theorem dL_due_5 : decode cL_due 5 = .ok (.aload 6, 2) := by decide +kernel
theorem dL_due_7 : decode cL_due 7 = .ok (.iload_n 1, 1) := by decide +kernel
theorem dL_due_8 : decode cL_due 8 = .ok (.iaload, 1) := by decide +kernel
theorem dL_due_9 : decode cL_due 9 = .ok (.ifCond .ne 6, 3) := by decide +kernel
theorem dL_due_12 : decode cL_due 12 = .ok (.bipush (-5), 2) := by decide +kernel
theorem dL_due_14 : decode cL_due 14 = .ok (.ireturn, 1) := by decide +kernel
theorem dL_due_15 : decode cL_due 15 = .ok (.aload_n 3, 1) := by decide +kernel
theorem dL_due_16 : decode cL_due 16 = .ok (.iconst 3, 1) := by decide +kernel
theorem dL_due_17 : decode cL_due 17 = .ok (.iaload, 1) := by decide +kernel
theorem dL_due_18 : decode cL_due 18 = .ok (.istore 11, 2) := by decide +kernel
theorem dL_due_20 : decode cL_due 20 = .ok (.aload_n 3, 1) := by decide +kernel
theorem dL_due_21 : decode cL_due 21 = .ok (.iconst 3, 1) := by decide +kernel
theorem dL_due_22 : decode cL_due 22 = .ok (.iconst 0, 1) := by decide +kernel
theorem dL_due_23 : decode cL_due 23 = .ok (.iastore, 1) := by decide +kernel
theorem dL_due_24 : decode cL_due 24 = .ok (.iload_n 1, 1) := by decide +kernel
theorem dL_due_25 : decode cL_due 25 = .ok (.iconst 0, 1) := by decide +kernel
theorem dL_due_26 : decode cL_due 26 = .ok (.aload_n 3, 1) := by decide +kernel
theorem dL_due_27 : decode cL_due 27 = .ok (.aload 5, 2) := by decide +kernel
theorem dL_due_29 : decode cL_due 29 = .ok (.aload 6, 2) := by decide +kernel
theorem dL_due_31 : decode cL_due 31 = .ok (.aload 7, 2) := by decide +kernel
theorem dL_due_33 : decode cL_due 33 = .ok (.aload 9, 2) := by decide +kernel
theorem dL_due_35 : decode cL_due 35 = .ok (.invokestatic 42, 3) := by decide +kernel
theorem dL_due_38 : decode cL_due 38 = .ok (.iload 11, 2) := by decide +kernel
theorem dL_due_40 : decode cL_due 40 = .ok (.ireturn, 1) := by decide +kernel
theorem dL_due_41 : decode cL_due 41 = .ok (.iload_n 0, 1) := by decide +kernel
theorem dL_due_42 : decode cL_due 42 = .ok (.iconst 2, 1) := by decide +kernel
theorem dL_due_43 : decode cL_due 43 = .ok (.if_icmp .ne 23, 3) := by decide +kernel
theorem dL_due_46 : decode cL_due 46 = .ok (.iload_n 2, 1) := by decide +kernel
theorem dL_due_47 : decode cL_due 47 = .ok (.aload_n 3, 1) := by decide +kernel
theorem dL_due_48 : decode cL_due 48 = .ok (.aload 4, 2) := by decide +kernel
theorem dL_due_50 : decode cL_due 50 = .ok (.aload 5, 2) := by decide +kernel
theorem dL_due_52 : decode cL_due 52 = .ok (.aload 6, 2) := by decide +kernel
theorem dL_due_54 : decode cL_due 54 = .ok (.aload 7, 2) := by decide +kernel
theorem dL_due_56 : decode cL_due 56 = .ok (.aload 8, 2) := by decide +kernel
theorem dL_due_58 : decode cL_due 58 = .ok (.aload 9, 2) := by decide +kernel
theorem dL_due_60 : decode cL_due 60 = .ok (.aload 10, 2) := by decide +kernel
theorem dL_due_62 : decode cL_due 62 = .ok (.invokestatic 95, 3) := by decide +kernel
theorem dL_due_65 : decode cL_due 65 = .ok (.ireturn, 1) := by decide +kernel
theorem dL_due_66 : decode cL_due 66 = .ok (.iload_n 0, 1) := by decide +kernel
theorem dL_due_67 : decode cL_due 67 = .ok (.iconst 3, 1) := by decide +kernel
theorem dL_due_68 : decode cL_due 68 = .ok (.if_icmp .ne 55, 3) := by decide +kernel
theorem dL_due_71 : decode cL_due 71 = .ok (.aload 4, 2) := by decide +kernel
theorem dL_due_73 : decode cL_due 73 = .ok (.iload_n 1, 1) := by decide +kernel
theorem dL_due_74 : decode cL_due 74 = .ok (.aload 4, 2) := by decide +kernel
theorem dL_due_76 : decode cL_due 76 = .ok (.iload_n 1, 1) := by decide +kernel
theorem dL_due_77 : decode cL_due 77 = .ok (.iaload, 1) := by decide +kernel
theorem dL_due_78 : decode cL_due 78 = .ok (.iload_n 2, 1) := by decide +kernel
theorem dL_due_79 : decode cL_due 79 = .ok (.iadd, 1) := by decide +kernel
theorem dL_due_80 : decode cL_due 80 = .ok (.sipush 999, 3) := by decide +kernel
theorem dL_due_83 : decode cL_due 83 = .ok (.if_icmp .le 9, 3) := by decide +kernel
theorem dL_due_86 : decode cL_due 86 = .ok (.sipush 999, 3) := by decide +kernel
theorem dL_due_89 : decode cL_due 89 = .ok (.goto 9, 3) := by decide +kernel
theorem dL_due_92 : decode cL_due 92 = .ok (.aload 4, 2) := by decide +kernel
theorem dL_due_94 : decode cL_due 94 = .ok (.iload_n 1, 1) := by decide +kernel
theorem dL_due_95 : decode cL_due 95 = .ok (.iaload, 1) := by decide +kernel
theorem dL_due_96 : decode cL_due 96 = .ok (.iload_n 2, 1) := by decide +kernel
theorem dL_due_97 : decode cL_due 97 = .ok (.iadd, 1) := by decide +kernel
theorem dL_due_98 : decode cL_due 98 = .ok (.iastore, 1) := by decide +kernel
theorem dL_due_99 : decode cL_due 99 = .ok (.aload 4, 2) := by decide +kernel
theorem dL_due_101 : decode cL_due 101 = .ok (.bipush 6, 2) := by decide +kernel
theorem dL_due_103 : decode cL_due 103 = .ok (.iload_n 1, 1) := by decide +kernel
theorem dL_due_104 : decode cL_due 104 = .ok (.iadd, 1) := by decide +kernel
theorem dL_due_105 : decode cL_due 105 = .ok (.iconst 0, 1) := by decide +kernel
theorem dL_due_106 : decode cL_due 106 = .ok (.iastore, 1) := by decide +kernel
theorem dL_due_107 : decode cL_due 107 = .ok (.aload 4, 2) := by decide +kernel
theorem dL_due_109 : decode cL_due 109 = .ok (.bipush 12, 2) := by decide +kernel
theorem dL_due_111 : decode cL_due 111 = .ok (.iload_n 1, 1) := by decide +kernel
theorem dL_due_112 : decode cL_due 112 = .ok (.iadd, 1) := by decide +kernel
theorem dL_due_113 : decode cL_due 113 = .ok (.dup2, 1) := by decide +kernel
theorem dL_due_114 : decode cL_due 114 = .ok (.iaload, 1) := by decide +kernel
theorem dL_due_115 : decode cL_due 115 = .ok (.iconst 1, 1) := by decide +kernel
theorem dL_due_116 : decode cL_due 116 = .ok (.iadd, 1) := by decide +kernel
theorem dL_due_117 : decode cL_due 117 = .ok (.iastore, 1) := by decide +kernel
theorem dL_due_118 : decode cL_due 118 = .ok (.aload 4, 2) := by decide +kernel
theorem dL_due_120 : decode cL_due 120 = .ok (.iload_n 1, 1) := by decide +kernel
theorem dL_due_121 : decode cL_due 121 = .ok (.iaload, 1) := by decide +kernel
theorem dL_due_122 : decode cL_due 122 = .ok (.ireturn, 1) := by decide +kernel
theorem dL_due_123 : decode cL_due 123 = .ok (.iload_n 0, 1) := by decide +kernel
theorem dL_due_124 : decode cL_due 124 = .ok (.iconst 4, 1) := by decide +kernel
theorem dL_due_125 : decode cL_due 125 = .ok (.if_icmp .ne 138, 3) := by decide +kernel
theorem dL_due_128 : decode cL_due 128 = .ok (.aload_n 3, 1) := by decide +kernel
theorem dL_due_129 : decode cL_due 129 = .ok (.iconst 3, 1) := by decide +kernel
theorem dL_due_130 : decode cL_due 130 = .ok (.iaload, 1) := by decide +kernel
theorem dL_due_131 : decode cL_due 131 = .ok (.ifCond .ne 6, 3) := by decide +kernel
theorem dL_due_134 : decode cL_due 134 = .ok (.bipush (-5), 2) := by decide +kernel
theorem dL_due_136 : decode cL_due 136 = .ok (.ireturn, 1) := by decide +kernel
theorem dL_due_137 : decode cL_due 137 = .ok (.aload_n 3, 1) := by decide +kernel
theorem dL_due_138 : decode cL_due 138 = .ok (.iconst 3, 1) := by decide +kernel
theorem dL_due_139 : decode cL_due 139 = .ok (.iaload, 1) := by decide +kernel
theorem dL_due_140 : decode cL_due 140 = .ok (.iconst 1, 1) := by decide +kernel
theorem dL_due_141 : decode cL_due 141 = .ok (.isub, 1) := by decide +kernel
theorem dL_due_142 : decode cL_due 142 = .ok (.istore 11, 2) := by decide +kernel
theorem dL_due_144 : decode cL_due 144 = .ok (.aload 9, 2) := by decide +kernel
theorem dL_due_146 : decode cL_due 146 = .ok (.iload 11, 2) := by decide +kernel
theorem dL_due_148 : decode cL_due 148 = .ok (.aload 7, 2) := by decide +kernel
theorem dL_due_150 : decode cL_due 150 = .ok (.bipush 6, 2) := by decide +kernel
theorem dL_due_152 : decode cL_due 152 = .ok (.iload 11, 2) := by decide +kernel
theorem dL_due_154 : decode cL_due 154 = .ok (.imul, 1) := by decide +kernel
theorem dL_due_155 : decode cL_due 155 = .ok (.iconst 2, 1) := by decide +kernel
theorem dL_due_156 : decode cL_due 156 = .ok (.iadd, 1) := by decide +kernel
theorem dL_due_157 : decode cL_due 157 = .ok (.iaload, 1) := by decide +kernel
theorem dL_due_158 : decode cL_due 158 = .ok (.invokestatic 30, 3) := by decide +kernel
theorem dL_due_161 : decode cL_due 161 = .ok (.istore 12, 2) := by decide +kernel
theorem dL_due_163 : decode cL_due 163 = .ok (.iload 12, 2) := by decide +kernel
theorem dL_due_165 : decode cL_due 165 = .ok (.bipush 119, 2) := by decide +kernel
theorem dL_due_167 : decode cL_due 167 = .ok (.if_icmp .ne 15, 3) := by decide +kernel
theorem dL_due_170 : decode cL_due 170 = .ok (.iload 11, 2) := by decide +kernel
theorem dL_due_172 : decode cL_due 172 = .ok (.aload 7, 2) := by decide +kernel
theorem dL_due_174 : decode cL_due 174 = .ok (.aload 9, 2) := by decide +kernel
theorem dL_due_176 : decode cL_due 176 = .ok (.invokestatic 38, 3) := by decide +kernel
theorem dL_due_179 : decode cL_due 179 = .ok (.goto 70, 3) := by decide +kernel
theorem dL_due_182 : decode cL_due 182 = .ok (.aload 7, 2) := by decide +kernel
theorem dL_due_184 : decode cL_due 184 = .ok (.bipush 6, 2) := by decide +kernel
theorem dL_due_186 : decode cL_due 186 = .ok (.iload 11, 2) := by decide +kernel
theorem dL_due_188 : decode cL_due 188 = .ok (.imul, 1) := by decide +kernel
theorem dL_due_189 : decode cL_due 189 = .ok (.iconst 3, 1) := by decide +kernel
theorem dL_due_190 : decode cL_due 190 = .ok (.iadd, 1) := by decide +kernel
theorem dL_due_191 : decode cL_due 191 = .ok (.iconst 0, 1) := by decide +kernel
theorem dL_due_192 : decode cL_due 192 = .ok (.iastore, 1) := by decide +kernel
theorem dL_due_193 : decode cL_due 193 = .ok (.aload 7, 2) := by decide +kernel
theorem dL_due_195 : decode cL_due 195 = .ok (.bipush 6, 2) := by decide +kernel
theorem dL_due_197 : decode cL_due 197 = .ok (.iload 11, 2) := by decide +kernel
theorem dL_due_199 : decode cL_due 199 = .ok (.imul, 1) := by decide +kernel
theorem dL_due_200 : decode cL_due 200 = .ok (.iconst 2, 1) := by decide +kernel
theorem dL_due_201 : decode cL_due 201 = .ok (.iadd, 1) := by decide +kernel
theorem dL_due_202 : decode cL_due 202 = .ok (.iload 12, 2) := by decide +kernel
theorem dL_due_204 : decode cL_due 204 = .ok (.bipush 99, 2) := by decide +kernel
theorem dL_due_206 : decode cL_due 206 = .ok (.if_icmp .eq 10, 3) := by decide +kernel
theorem dL_due_209 : decode cL_due 209 = .ok (.iload 12, 2) := by decide +kernel
theorem dL_due_211 : decode cL_due 211 = .ok (.bipush 107, 2) := by decide +kernel
theorem dL_due_213 : decode cL_due 213 = .ok (.if_icmp .ne 18, 3) := by decide +kernel
theorem dL_due_216 : decode cL_due 216 = .ok (.aload 7, 2) := by decide +kernel
theorem dL_due_218 : decode cL_due 218 = .ok (.bipush 6, 2) := by decide +kernel
theorem dL_due_220 : decode cL_due 220 = .ok (.iload 11, 2) := by decide +kernel
theorem dL_due_222 : decode cL_due 222 = .ok (.imul, 1) := by decide +kernel
theorem dL_due_223 : decode cL_due 223 = .ok (.iconst 2, 1) := by decide +kernel
theorem dL_due_224 : decode cL_due 224 = .ok (.iadd, 1) := by decide +kernel
theorem dL_due_225 : decode cL_due 225 = .ok (.iaload, 1) := by decide +kernel
theorem dL_due_226 : decode cL_due 226 = .ok (.iconst 2, 1) := by decide +kernel
theorem dL_due_227 : decode cL_due 227 = .ok (.iadd, 1) := by decide +kernel
theorem dL_due_228 : decode cL_due 228 = .ok (.goto 20, 3) := by decide +kernel
theorem dL_due_231 : decode cL_due 231 = .ok (.iload 11, 2) := by decide +kernel
theorem dL_due_233 : decode cL_due 233 = .ok (.aload 7, 2) := by decide +kernel
theorem dL_due_235 : decode cL_due 235 = .ok (.bipush 6, 2) := by decide +kernel
theorem dL_due_237 : decode cL_due 237 = .ok (.iload 11, 2) := by decide +kernel
theorem dL_due_239 : decode cL_due 239 = .ok (.imul, 1) := by decide +kernel
theorem dL_due_240 : decode cL_due 240 = .ok (.iconst 2, 1) := by decide +kernel
theorem dL_due_241 : decode cL_due 241 = .ok (.iadd, 1) := by decide +kernel
theorem dL_due_242 : decode cL_due 242 = .ok (.iaload, 1) := by decide +kernel
theorem dL_due_243 : decode cL_due 243 = .ok (.aload 9, 2) := by decide +kernel
theorem dL_due_245 : decode cL_due 245 = .ok (.invokestatic 50, 3) := by decide +kernel
theorem dL_due_248 : decode cL_due 248 = .ok (.iastore, 1) := by decide +kernel
theorem dL_due_249 : decode cL_due 249 = .ok (.aload_n 3, 1) := by decide +kernel
theorem dL_due_250 : decode cL_due 250 = .ok (.aload 7, 2) := by decide +kernel
theorem dL_due_252 : decode cL_due 252 = .ok (.aload 8, 2) := by decide +kernel
theorem dL_due_254 : decode cL_due 254 = .ok (.aload 9, 2) := by decide +kernel
theorem dL_due_256 : decode cL_due 256 = .ok (.invokestatic 54, 3) := by decide +kernel
theorem dL_due_259 : decode cL_due 259 = .ok (.aload_n 3, 1) := by decide +kernel
theorem dL_due_260 : decode cL_due 260 = .ok (.iconst 3, 1) := by decide +kernel
theorem dL_due_261 : decode cL_due 261 = .ok (.iaload, 1) := by decide +kernel
theorem dL_due_262 : decode cL_due 262 = .ok (.ireturn, 1) := by decide +kernel
theorem dL_due_263 : decode cL_due 263 = .ok (.iload_n 0, 1) := by decide +kernel
theorem dL_due_264 : decode cL_due 264 = .ok (.iconst 5, 1) := by decide +kernel
theorem dL_due_265 : decode cL_due 265 = .ok (.if_icmp .ne 27, 3) := by decide +kernel
theorem dL_due_268 : decode cL_due 268 = .ok (.aload 6, 2) := by decide +kernel
theorem dL_due_270 : decode cL_due 270 = .ok (.iload_n 1, 1) := by decide +kernel
theorem dL_due_271 : decode cL_due 271 = .ok (.iaload, 1) := by decide +kernel
theorem dL_due_272 : decode cL_due 272 = .ok (.ifCond .ne 6, 3) := by decide +kernel
theorem dL_due_275 : decode cL_due 275 = .ok (.bipush (-5), 2) := by decide +kernel
theorem dL_due_277 : decode cL_due 277 = .ok (.ireturn, 1) := by decide +kernel
theorem dL_due_278 : decode cL_due 278 = .ok (.aload 6, 2) := by decide +kernel
theorem dL_due_280 : decode cL_due 280 = .ok (.iload_n 1, 1) := by decide +kernel
theorem dL_due_281 : decode cL_due 281 = .ok (.iconst 0, 1) := by decide +kernel
theorem dL_due_282 : decode cL_due 282 = .ok (.iastore, 1) := by decide +kernel
theorem dL_due_283 : decode cL_due 283 = .ok (.iload_n 1, 1) := by decide +kernel
theorem dL_due_284 : decode cL_due 284 = .ok (.aload 5, 2) := by decide +kernel
theorem dL_due_286 : decode cL_due 286 = .ok (.aload 6, 2) := by decide +kernel
theorem dL_due_288 : decode cL_due 288 = .ok (.invokestatic 99, 3) := by decide +kernel
theorem dL_due_291 : decode cL_due 291 = .ok (.ireturn, 1) := by decide +kernel
theorem dL_due_292 : decode cL_due 292 = .ok (.iload_n 0, 1) := by decide +kernel
theorem dL_due_293 : decode cL_due 293 = .ok (.bipush 6, 2) := by decide +kernel
theorem dL_due_295 : decode cL_due 295 = .ok (.if_icmp .ne 9, 3) := by decide +kernel
theorem dL_due_298 : decode cL_due 298 = .ok (.aload_n 3, 1) := by decide +kernel
theorem dL_due_299 : decode cL_due 299 = .ok (.iconst 4, 1) := by decide +kernel
theorem dL_due_300 : decode cL_due 300 = .ok (.iaload, 1) := by decide +kernel
theorem dL_due_301 : decode cL_due 301 = .ok (.goto 6, 3) := by decide +kernel
theorem dL_due_304 : decode cL_due 304 = .ok (.aload_n 3, 1) := by decide +kernel
theorem dL_due_305 : decode cL_due 305 = .ok (.iload_n 1, 1) := by decide +kernel
theorem dL_due_306 : decode cL_due 306 = .ok (.iaload, 1) := by decide +kernel
theorem dL_due_307 : decode cL_due 307 = .ok (.istore 11, 2) := by decide +kernel
theorem dL_due_309 : decode cL_due 309 = .ok (.aload_n 3, 1) := by decide +kernel
theorem dL_due_310 : decode cL_due 310 = .ok (.iload_n 0, 1) := by decide +kernel
theorem dL_due_311 : decode cL_due 311 = .ok (.bipush 6, 2) := by decide +kernel
theorem dL_due_313 : decode cL_due 313 = .ok (.if_icmp .ne 7, 3) := by decide +kernel
theorem dL_due_316 : decode cL_due 316 = .ok (.iconst 4, 1) := by decide +kernel
theorem dL_due_317 : decode cL_due 317 = .ok (.goto 4, 3) := by decide +kernel
theorem dL_due_320 : decode cL_due 320 = .ok (.iload_n 1, 1) := by decide +kernel
theorem dL_due_321 : decode cL_due 321 = .ok (.iload_n 0, 1) := by decide +kernel
theorem dL_due_322 : decode cL_due 322 = .ok (.bipush 6, 2) := by decide +kernel
theorem dL_due_324 : decode cL_due 324 = .ok (.if_icmp .ne 7, 3) := by decide +kernel
theorem dL_due_327 : decode cL_due 327 = .ok (.iconst 0, 1) := by decide +kernel
theorem dL_due_328 : decode cL_due 328 = .ok (.goto 4, 3) := by decide +kernel
theorem dL_due_331 : decode cL_due 331 = .ok (.iload_n 2, 1) := by decide +kernel
theorem dL_due_332 : decode cL_due 332 = .ok (.iastore, 1) := by decide +kernel
theorem dL_due_333 : decode cL_due 333 = .ok (.iload 11, 2) := by decide +kernel
theorem dL_due_335 : decode cL_due 335 = .ok (.ireturn, 1) := by decide +kernel
theorem dL_pickAt_0 : decode cL_pickAt 0 = .ok (.aload_n 1, 1) := by decide +kernel
theorem dL_pickAt_1 : decode cL_pickAt 1 = .ok (.iload_n 0, 1) := by decide +kernel
theorem dL_pickAt_2 : decode cL_pickAt 2 = .ok (.bipush 10, 2) := by decide +kernel
theorem dL_pickAt_4 : decode cL_pickAt 4 = .ok (.idiv, 1) := by decide +kernel
theorem dL_pickAt_5 : decode cL_pickAt 5 = .ok (.iaload, 1) := by decide +kernel
theorem dL_pickAt_6 : decode cL_pickAt 6 = .ok (.iconst 3, 1) := by decide +kernel
theorem dL_pickAt_7 : decode cL_pickAt 7 = .ok (.iload_n 0, 1) := by decide +kernel
theorem dL_pickAt_8 : decode cL_pickAt 8 = .ok (.bipush 10, 2) := by decide +kernel
theorem dL_pickAt_10 : decode cL_pickAt 10 = .ok (.irem, 1) := by decide +kernel
theorem dL_pickAt_11 : decode cL_pickAt 11 = .ok (.imul, 1) := by decide +kernel
theorem dL_pickAt_12 : decode cL_pickAt 12 = .ok (.ishr, 1) := by decide +kernel
theorem dL_pickAt_13 : decode cL_pickAt 13 = .ok (.bipush 7, 2) := by decide +kernel
theorem dL_pickAt_15 : decode cL_pickAt 15 = .ok (.iand, 1) := by decide +kernel
theorem dL_pickAt_16 : decode cL_pickAt 16 = .ok (.ireturn, 1) := by decide +kernel
theorem dL_isThread_0 : decode cL_isThread 0 = .ok (.iconst 0, 1) := by decide +kernel
theorem dL_isThread_1 : decode cL_isThread 1 = .ok (.istore 6, 2) := by decide +kernel
theorem dL_isThread_3 : decode cL_isThread 3 = .ok (.iconst 0, 1) := by decide +kernel
theorem dL_isThread_4 : decode cL_isThread 4 = .ok (.istore 7, 2) := by decide +kernel
theorem dL_isThread_6 : decode cL_isThread 6 = .ok (.iconst 0, 1) := by decide +kernel
theorem dL_isThread_7 : decode cL_isThread 7 = .ok (.istore 8, 2) := by decide +kernel
theorem dL_isThread_9 : decode cL_isThread 9 = .ok (.iconst 0, 1) := by decide +kernel
theorem dL_isThread_10 : decode cL_isThread 10 = .ok (.istore 9, 2) := by decide +kernel
theorem dL_isThread_12 : decode cL_isThread 12 = .ok (.iload 9, 2) := by decide +kernel
theorem dL_isThread_14 : decode cL_isThread 14 = .ok (.aload_n 3, 1) := by decide +kernel
theorem dL_isThread_15 : decode cL_isThread 15 = .ok (.iconst 4, 1) := by decide +kernel
theorem dL_isThread_16 : decode cL_isThread 16 = .ok (.iaload, 1) := by decide +kernel
theorem dL_isThread_17 : decode cL_isThread 17 = .ok (.if_icmp .ge 73, 3) := by decide +kernel
theorem dL_isThread_20 : decode cL_isThread 20 = .ok (.iload 9, 2) := by decide +kernel
theorem dL_isThread_22 : decode cL_isThread 22 = .ok (.aload 5, 2) := by decide +kernel
theorem dL_isThread_24 : decode cL_isThread 24 = .ok (.invokestatic 102, 3) := by decide +kernel
theorem dL_isThread_27 : decode cL_isThread 27 = .ok (.iload_n 1, 1) := by decide +kernel
theorem dL_isThread_28 : decode cL_isThread 28 = .ok (.if_icmp .ne 7, 3) := by decide +kernel
theorem dL_isThread_31 : decode cL_isThread 31 = .ok (.iconst 1, 1) := by decide +kernel
theorem dL_isThread_32 : decode cL_isThread 32 = .ok (.goto 4, 3) := by decide +kernel
theorem dL_isThread_35 : decode cL_isThread 35 = .ok (.iconst 0, 1) := by decide +kernel
theorem dL_isThread_36 : decode cL_isThread 36 = .ok (.istore 10, 2) := by decide +kernel
theorem dL_isThread_38 : decode cL_isThread 38 = .ok (.iload 6, 2) := by decide +kernel
theorem dL_isThread_40 : decode cL_isThread 40 = .ok (.iload 10, 2) := by decide +kernel
theorem dL_isThread_42 : decode cL_isThread 42 = .ok (.ifCond .eq 7, 3) := by decide +kernel
theorem dL_isThread_45 : decode cL_isThread 45 = .ok (.iconst 1, 1) := by decide +kernel
theorem dL_isThread_46 : decode cL_isThread 46 = .ok (.goto 4, 3) := by decide +kernel
theorem dL_isThread_49 : decode cL_isThread 49 = .ok (.iconst 0, 1) := by decide +kernel
theorem dL_isThread_50 : decode cL_isThread 50 = .ok (.iadd, 1) := by decide +kernel
theorem dL_isThread_51 : decode cL_isThread 51 = .ok (.istore 6, 2) := by decide +kernel
theorem dL_isThread_53 : decode cL_isThread 53 = .ok (.iload 10, 2) := by decide +kernel
theorem dL_isThread_55 : decode cL_isThread 55 = .ok (.ifCond .eq 10, 3) := by decide +kernel
theorem dL_isThread_58 : decode cL_isThread 58 = .ok (.iload 7, 2) := by decide +kernel
theorem dL_isThread_60 : decode cL_isThread 60 = .ok (.iconst 1, 1) := by decide +kernel
theorem dL_isThread_61 : decode cL_isThread 61 = .ok (.iadd, 1) := by decide +kernel
theorem dL_isThread_62 : decode cL_isThread 62 = .ok (.goto 4, 3) := by decide +kernel
theorem dL_isThread_65 : decode cL_isThread 65 = .ok (.iconst 0, 1) := by decide +kernel
theorem dL_isThread_66 : decode cL_isThread 66 = .ok (.istore 7, 2) := by decide +kernel
theorem dL_isThread_68 : decode cL_isThread 68 = .ok (.iload 7, 2) := by decide +kernel
theorem dL_isThread_70 : decode cL_isThread 70 = .ok (.iload 8, 2) := by decide +kernel
theorem dL_isThread_72 : decode cL_isThread 72 = .ok (.if_icmp .le 8, 3) := by decide +kernel
theorem dL_isThread_75 : decode cL_isThread 75 = .ok (.iload 7, 2) := by decide +kernel
theorem dL_isThread_77 : decode cL_isThread 77 = .ok (.goto 5, 3) := by decide +kernel
theorem dL_isThread_80 : decode cL_isThread 80 = .ok (.iload 8, 2) := by decide +kernel
theorem dL_isThread_82 : decode cL_isThread 82 = .ok (.istore 8, 2) := by decide +kernel
theorem dL_isThread_84 : decode cL_isThread 84 = .ok (.iinc 9 1, 3) := by decide +kernel
theorem dL_isThread_87 : decode cL_isThread 87 = .ok (.goto (-75), 3) := by decide +kernel
theorem dL_isThread_90 : decode cL_isThread 90 = .ok (.aload_n 0, 1) := by decide +kernel
theorem dL_isThread_91 : decode cL_isThread 91 = .ok (.iload_n 1, 1) := by decide +kernel
theorem dL_isThread_92 : decode cL_isThread 92 = .ok (.iconst 0, 1) := by decide +kernel
theorem dL_isThread_93 : decode cL_isThread 93 = .ok (.invokevirtual 106, 3) := by decide +kernel
theorem dL_isThread_96 : decode cL_isThread 96 = .ok (.aload 4, 2) := by decide +kernel
theorem dL_isThread_98 : decode cL_isThread 98 = .ok (.iload_n 1, 1) := by decide +kernel
theorem dL_isThread_99 : decode cL_isThread 99 = .ok (.iaload, 1) := by decide +kernel
theorem dL_isThread_100 : decode cL_isThread 100 = .ok (.if_icmp .ne 77, 3) := by decide +kernel
theorem dL_isThread_103 : decode cL_isThread 103 = .ok (.aload_n 0, 1) := by decide +kernel
theorem dL_isThread_104 : decode cL_isThread 104 = .ok (.iload_n 1, 1) := by decide +kernel
theorem dL_isThread_105 : decode cL_isThread 105 = .ok (.iconst 1, 1) := by decide +kernel
theorem dL_isThread_106 : decode cL_isThread 106 = .ok (.invokevirtual 106, 3) := by decide +kernel
theorem dL_isThread_109 : decode cL_isThread 109 = .ok (.aload 4, 2) := by decide +kernel
theorem dL_isThread_111 : decode cL_isThread 111 = .ok (.bipush 6, 2) := by decide +kernel
theorem dL_isThread_113 : decode cL_isThread 113 = .ok (.iload_n 1, 1) := by decide +kernel
theorem dL_isThread_114 : decode cL_isThread 114 = .ok (.iadd, 1) := by decide +kernel
theorem dL_isThread_115 : decode cL_isThread 115 = .ok (.iaload, 1) := by decide +kernel
theorem dL_isThread_116 : decode cL_isThread 116 = .ok (.if_icmp .ne 61, 3) := by decide +kernel
theorem dL_isThread_119 : decode cL_isThread 119 = .ok (.aload_n 0, 1) := by decide +kernel
theorem dL_isThread_120 : decode cL_isThread 120 = .ok (.iload_n 1, 1) := by decide +kernel
theorem dL_isThread_121 : decode cL_isThread 121 = .ok (.iconst 2, 1) := by decide +kernel
theorem dL_isThread_122 : decode cL_isThread 122 = .ok (.invokevirtual 106, 3) := by decide +kernel
theorem dL_isThread_125 : decode cL_isThread 125 = .ok (.aload 4, 2) := by decide +kernel
theorem dL_isThread_127 : decode cL_isThread 127 = .ok (.bipush 12, 2) := by decide +kernel
theorem dL_isThread_129 : decode cL_isThread 129 = .ok (.iload_n 1, 1) := by decide +kernel
theorem dL_isThread_130 : decode cL_isThread 130 = .ok (.iadd, 1) := by decide +kernel
theorem dL_isThread_131 : decode cL_isThread 131 = .ok (.iaload, 1) := by decide +kernel
theorem dL_isThread_132 : decode cL_isThread 132 = .ok (.if_icmp .ne 45, 3) := by decide +kernel
theorem dL_isThread_135 : decode cL_isThread 135 = .ok (.aload_n 0, 1) := by decide +kernel
theorem dL_isThread_136 : decode cL_isThread 136 = .ok (.iload_n 1, 1) := by decide +kernel
theorem dL_isThread_137 : decode cL_isThread 137 = .ok (.iconst 3, 1) := by decide +kernel
theorem dL_isThread_138 : decode cL_isThread 138 = .ok (.invokevirtual 106, 3) := by decide +kernel
theorem dL_isThread_141 : decode cL_isThread 141 = .ok (.aload 4, 2) := by decide +kernel
theorem dL_isThread_143 : decode cL_isThread 143 = .ok (.bipush 18, 2) := by decide +kernel
theorem dL_isThread_145 : decode cL_isThread 145 = .ok (.iload_n 1, 1) := by decide +kernel
theorem dL_isThread_146 : decode cL_isThread 146 = .ok (.iadd, 1) := by decide +kernel
theorem dL_isThread_147 : decode cL_isThread 147 = .ok (.iaload, 1) := by decide +kernel
theorem dL_isThread_148 : decode cL_isThread 148 = .ok (.if_icmp .ne 29, 3) := by decide +kernel
theorem dL_isThread_151 : decode cL_isThread 151 = .ok (.aload_n 0, 1) := by decide +kernel
theorem dL_isThread_152 : decode cL_isThread 152 = .ok (.iload_n 1, 1) := by decide +kernel
theorem dL_isThread_153 : decode cL_isThread 153 = .ok (.iconst 4, 1) := by decide +kernel
theorem dL_isThread_154 : decode cL_isThread 154 = .ok (.invokevirtual 106, 3) := by decide +kernel
theorem dL_isThread_157 : decode cL_isThread 157 = .ok (.iload 6, 2) := by decide +kernel
theorem dL_isThread_159 : decode cL_isThread 159 = .ok (.if_icmp .ne 18, 3) := by decide +kernel
theorem dL_isThread_162 : decode cL_isThread 162 = .ok (.aload_n 0, 1) := by decide +kernel
theorem dL_isThread_163 : decode cL_isThread 163 = .ok (.iload_n 1, 1) := by decide +kernel
theorem dL_isThread_164 : decode cL_isThread 164 = .ok (.iconst 5, 1) := by decide +kernel
theorem dL_isThread_165 : decode cL_isThread 165 = .ok (.invokevirtual 106, 3) := by decide +kernel
theorem dL_isThread_168 : decode cL_isThread 168 = .ok (.iload 8, 2) := by decide +kernel
theorem dL_isThread_170 : decode cL_isThread 170 = .ok (.if_icmp .ne 7, 3) := by decide +kernel
theorem dL_isThread_173 : decode cL_isThread 173 = .ok (.iconst 1, 1) := by decide +kernel
theorem dL_isThread_174 : decode cL_isThread 174 = .ok (.goto 4, 3) := by decide +kernel
theorem dL_isThread_177 : decode cL_isThread 177 = .ok (.iconst 0, 1) := by decide +kernel
theorem dL_isThread_178 : decode cL_isThread 178 = .ok (.istore 9, 2) := by decide +kernel
theorem dL_isThread_180 : decode cL_isThread 180 = .ok (.aload_n 0, 1) := by decide +kernel
theorem dL_isThread_181 : decode cL_isThread 181 = .ok (.iload_n 2, 1) := by decide +kernel
theorem dL_isThread_182 : decode cL_isThread 182 = .ok (.invokevirtual 109, 3) := by decide +kernel
theorem dL_isThread_185 : decode cL_isThread 185 = .ok (.istore 10, 2) := by decide +kernel
theorem dL_isThread_187 : decode cL_isThread 187 = .ok (.aload_n 0, 1) := by decide +kernel
theorem dL_isThread_188 : decode cL_isThread 188 = .ok (.iload_n 2, 1) := by decide +kernel
theorem dL_isThread_189 : decode cL_isThread 189 = .ok (.iconst 1, 1) := by decide +kernel
theorem dL_isThread_190 : decode cL_isThread 190 = .ok (.iadd, 1) := by decide +kernel
theorem dL_isThread_191 : decode cL_isThread 191 = .ok (.invokevirtual 109, 3) := by decide +kernel
theorem dL_isThread_194 : decode cL_isThread 194 = .ok (.istore 11, 2) := by decide +kernel
theorem dL_isThread_196 : decode cL_isThread 196 = .ok (.iload 9, 2) := by decide +kernel
theorem dL_isThread_198 : decode cL_isThread 198 = .ok (.ifCond .eq 59, 3) := by decide +kernel
theorem dL_isThread_201 : decode cL_isThread 201 = .ok (.iload 10, 2) := by decide +kernel
theorem dL_isThread_203 : decode cL_isThread 203 = .ok (.ifCond .lt 54, 3) := by decide +kernel
theorem dL_isThread_206 : decode cL_isThread 206 = .ok (.iload_n 2, 1) := by decide +kernel
theorem dL_isThread_207 : decode cL_isThread 207 = .ok (.iconst 5, 1) := by decide +kernel
theorem dL_isThread_208 : decode cL_isThread 208 = .ok (.if_icmp .ne 12, 3) := by decide +kernel
theorem dL_isThread_211 : decode cL_isThread 211 = .ok (.iload 11, 2) := by decide +kernel
theorem dL_isThread_213 : decode cL_isThread 213 = .ok (.iconst (-1), 1) := by decide +kernel
theorem dL_isThread_214 : decode cL_isThread 214 = .ok (.if_icmp .ne 43, 3) := by decide +kernel
theorem dL_isThread_217 : decode cL_isThread 217 = .ok (.goto 36, 3) := by decide +kernel
theorem dL_isThread_220 : decode cL_isThread 220 = .ok (.aload 4, 2) := by decide +kernel
theorem dL_isThread_222 : decode cL_isThread 222 = .ok (.iload 10, 2) := by decide +kernel
theorem dL_isThread_224 : decode cL_isThread 224 = .ok (.iaload, 1) := by decide +kernel
theorem dL_isThread_225 : decode cL_isThread 225 = .ok (.aload 4, 2) := by decide +kernel
theorem dL_isThread_227 : decode cL_isThread 227 = .ok (.iload 11, 2) := by decide +kernel
theorem dL_isThread_229 : decode cL_isThread 229 = .ok (.iaload, 1) := by decide +kernel
theorem dL_isThread_230 : decode cL_isThread 230 = .ok (.if_icmp .lt 23, 3) := by decide +kernel
theorem dL_isThread_233 : decode cL_isThread 233 = .ok (.aload 4, 2) := by decide +kernel
theorem dL_isThread_235 : decode cL_isThread 235 = .ok (.iload 10, 2) := by decide +kernel
theorem dL_isThread_237 : decode cL_isThread 237 = .ok (.iaload, 1) := by decide +kernel
theorem dL_isThread_238 : decode cL_isThread 238 = .ok (.aload 4, 2) := by decide +kernel
theorem dL_isThread_240 : decode cL_isThread 240 = .ok (.iload 11, 2) := by decide +kernel
theorem dL_isThread_242 : decode cL_isThread 242 = .ok (.iaload, 1) := by decide +kernel
theorem dL_isThread_243 : decode cL_isThread 243 = .ok (.if_icmp .ne 14, 3) := by decide +kernel
theorem dL_isThread_246 : decode cL_isThread 246 = .ok (.iload 10, 2) := by decide +kernel
theorem dL_isThread_248 : decode cL_isThread 248 = .ok (.iload 11, 2) := by decide +kernel
theorem dL_isThread_250 : decode cL_isThread 250 = .ok (.if_icmp .ge 7, 3) := by decide +kernel
theorem dL_isThread_253 : decode cL_isThread 253 = .ok (.iconst 1, 1) := by decide +kernel
theorem dL_isThread_254 : decode cL_isThread 254 = .ok (.goto 4, 3) := by decide +kernel
theorem dL_isThread_257 : decode cL_isThread 257 = .ok (.iconst 0, 1) := by decide +kernel
theorem dL_isThread_258 : decode cL_isThread 258 = .ok (.istore 9, 2) := by decide +kernel
theorem dL_isThread_260 : decode cL_isThread 260 = .ok (.aload_n 0, 1) := by decide +kernel
theorem dL_isThread_261 : decode cL_isThread 261 = .ok (.iload_n 2, 1) := by decide +kernel
theorem dL_isThread_262 : decode cL_isThread 262 = .ok (.invokevirtual 112, 3) := by decide +kernel
theorem dL_isThread_265 : decode cL_isThread 265 = .ok (.istore 12, 2) := by decide +kernel
theorem dL_isThread_267 : decode cL_isThread 267 = .ok (.aload_n 0, 1) := by decide +kernel
theorem dL_isThread_268 : decode cL_isThread 268 = .ok (.iload_n 2, 1) := by decide +kernel
theorem dL_isThread_269 : decode cL_isThread 269 = .ok (.iconst 1, 1) := by decide +kernel
theorem dL_isThread_270 : decode cL_isThread 270 = .ok (.iadd, 1) := by decide +kernel
theorem dL_isThread_271 : decode cL_isThread 271 = .ok (.invokevirtual 112, 3) := by decide +kernel
theorem dL_isThread_274 : decode cL_isThread 274 = .ok (.istore 13, 2) := by decide +kernel
theorem dL_isThread_276 : decode cL_isThread 276 = .ok (.iload 12, 2) := by decide +kernel
theorem dL_isThread_278 : decode cL_isThread 278 = .ok (.ifCond .ge 7, 3) := by decide +kernel
theorem dL_isThread_281 : decode cL_isThread 281 = .ok (.iconst 0, 1) := by decide +kernel
theorem dL_isThread_282 : decode cL_isThread 282 = .ok (.goto 10, 3) := by decide +kernel
theorem dL_isThread_285 : decode cL_isThread 285 = .ok (.aload_n 0, 1) := by decide +kernel
theorem dL_isThread_286 : decode cL_isThread 286 = .ok (.iload 12, 2) := by decide +kernel
theorem dL_isThread_288 : decode cL_isThread 288 = .ok (.iconst 4, 1) := by decide +kernel
theorem dL_isThread_289 : decode cL_isThread 289 = .ok (.invokevirtual 106, 3) := by decide +kernel
theorem dL_isThread_292 : decode cL_isThread 292 = .ok (.istore 14, 2) := by decide +kernel
theorem dL_isThread_294 : decode cL_isThread 294 = .ok (.iload 13, 2) := by decide +kernel
theorem dL_isThread_296 : decode cL_isThread 296 = .ok (.ifCond .ge 7, 3) := by decide +kernel
theorem dL_isThread_299 : decode cL_isThread 299 = .ok (.iconst 0, 1) := by decide +kernel
theorem dL_isThread_300 : decode cL_isThread 300 = .ok (.goto 10, 3) := by decide +kernel
theorem dL_isThread_303 : decode cL_isThread 303 = .ok (.aload_n 0, 1) := by decide +kernel
theorem dL_isThread_304 : decode cL_isThread 304 = .ok (.iload 13, 2) := by decide +kernel
theorem dL_isThread_306 : decode cL_isThread 306 = .ok (.iconst 4, 1) := by decide +kernel
theorem dL_isThread_307 : decode cL_isThread 307 = .ok (.invokevirtual 106, 3) := by decide +kernel
theorem dL_isThread_310 : decode cL_isThread 310 = .ok (.istore 15, 2) := by decide +kernel
theorem dL_isThread_312 : decode cL_isThread 312 = .ok (.iload 9, 2) := by decide +kernel
theorem dL_isThread_314 : decode cL_isThread 314 = .ok (.ifCond .eq 57, 3) := by decide +kernel
theorem dL_isThread_317 : decode cL_isThread 317 = .ok (.iload 12, 2) := by decide +kernel
theorem dL_isThread_319 : decode cL_isThread 319 = .ok (.ifCond .ge 12, 3) := by decide +kernel
theorem dL_isThread_322 : decode cL_isThread 322 = .ok (.iload 13, 2) := by decide +kernel
theorem dL_isThread_324 : decode cL_isThread 324 = .ok (.iconst (-1), 1) := by decide +kernel
theorem dL_isThread_325 : decode cL_isThread 325 = .ok (.if_icmp .ne 46, 3) := by decide +kernel
theorem dL_isThread_328 : decode cL_isThread 328 = .ok (.goto 39, 3) := by decide +kernel
theorem dL_isThread_331 : decode cL_isThread 331 = .ok (.iload 14, 2) := by decide +kernel
theorem dL_isThread_333 : decode cL_isThread 333 = .ok (.ifCond .le 38, 3) := by decide +kernel
theorem dL_isThread_336 : decode cL_isThread 336 = .ok (.iload 13, 2) := by decide +kernel
theorem dL_isThread_338 : decode cL_isThread 338 = .ok (.ifCond .lt 29, 3) := by decide +kernel
theorem dL_isThread_341 : decode cL_isThread 341 = .ok (.iload 15, 2) := by decide +kernel
theorem dL_isThread_343 : decode cL_isThread 343 = .ok (.ifCond .le 28, 3) := by decide +kernel
theorem dL_isThread_346 : decode cL_isThread 346 = .ok (.iload 14, 2) := by decide +kernel
theorem dL_isThread_348 : decode cL_isThread 348 = .ok (.iload 15, 2) := by decide +kernel
theorem dL_isThread_350 : decode cL_isThread 350 = .ok (.if_icmp .gt 17, 3) := by decide +kernel
theorem dL_isThread_353 : decode cL_isThread 353 = .ok (.iload 14, 2) := by decide +kernel
theorem dL_isThread_355 : decode cL_isThread 355 = .ok (.iload 15, 2) := by decide +kernel
theorem dL_isThread_357 : decode cL_isThread 357 = .ok (.if_icmp .ne 14, 3) := by decide +kernel
theorem dL_isThread_360 : decode cL_isThread 360 = .ok (.iload 12, 2) := by decide +kernel
theorem dL_isThread_362 : decode cL_isThread 362 = .ok (.iload 13, 2) := by decide +kernel
theorem dL_isThread_364 : decode cL_isThread 364 = .ok (.if_icmp .ge 7, 3) := by decide +kernel
theorem dL_isThread_367 : decode cL_isThread 367 = .ok (.iconst 1, 1) := by decide +kernel
theorem dL_isThread_368 : decode cL_isThread 368 = .ok (.goto 4, 3) := by decide +kernel
theorem dL_isThread_371 : decode cL_isThread 371 = .ok (.iconst 0, 1) := by decide +kernel
theorem dL_isThread_372 : decode cL_isThread 372 = .ok (.ireturn, 1) := by decide +kernel
theorem dL_isCard_0 : decode cL_isCard 0 = .ok (.iconst 0, 1) := by decide +kernel
theorem dL_isCard_1 : decode cL_isCard 1 = .ok (.istore 6, 2) := by decide +kernel
theorem dL_isCard_3 : decode cL_isCard 3 = .ok (.iconst 0, 1) := by decide +kernel
theorem dL_isCard_4 : decode cL_isCard 4 = .ok (.istore 7, 2) := by decide +kernel
theorem dL_isCard_6 : decode cL_isCard 6 = .ok (.iconst 0, 1) := by decide +kernel
theorem dL_isCard_7 : decode cL_isCard 7 = .ok (.istore 8, 2) := by decide +kernel
theorem dL_isCard_9 : decode cL_isCard 9 = .ok (.iconst 0, 1) := by decide +kernel
theorem dL_isCard_10 : decode cL_isCard 10 = .ok (.istore 9, 2) := by decide +kernel
theorem dL_isCard_12 : decode cL_isCard 12 = .ok (.iload 9, 2) := by decide +kernel
theorem dL_isCard_14 : decode cL_isCard 14 = .ok (.aload_n 2, 1) := by decide +kernel
theorem dL_isCard_15 : decode cL_isCard 15 = .ok (.iconst 3, 1) := by decide +kernel
theorem dL_isCard_16 : decode cL_isCard 16 = .ok (.iaload, 1) := by decide +kernel
theorem dL_isCard_17 : decode cL_isCard 17 = .ok (.if_icmp .ge 31, 3) := by decide +kernel
theorem dL_isCard_20 : decode cL_isCard 20 = .ok (.iload 6, 2) := by decide +kernel
theorem dL_isCard_22 : decode cL_isCard 22 = .ok (.aload 5, 2) := by decide +kernel
theorem dL_isCard_24 : decode cL_isCard 24 = .ok (.bipush 6, 2) := by decide +kernel
theorem dL_isCard_26 : decode cL_isCard 26 = .ok (.iload 9, 2) := by decide +kernel
theorem dL_isCard_28 : decode cL_isCard 28 = .ok (.imul, 1) := by decide +kernel
theorem dL_isCard_29 : decode cL_isCard 29 = .ok (.iaload, 1) := by decide +kernel
theorem dL_isCard_30 : decode cL_isCard 30 = .ok (.iload_n 1, 1) := by decide +kernel
theorem dL_isCard_31 : decode cL_isCard 31 = .ok (.if_icmp .ne 7, 3) := by decide +kernel
theorem dL_isCard_34 : decode cL_isCard 34 = .ok (.iconst 1, 1) := by decide +kernel
theorem dL_isCard_35 : decode cL_isCard 35 = .ok (.goto 4, 3) := by decide +kernel
theorem dL_isCard_38 : decode cL_isCard 38 = .ok (.iconst 0, 1) := by decide +kernel
theorem dL_isCard_39 : decode cL_isCard 39 = .ok (.iadd, 1) := by decide +kernel
theorem dL_isCard_40 : decode cL_isCard 40 = .ok (.istore 6, 2) := by decide +kernel
theorem dL_isCard_42 : decode cL_isCard 42 = .ok (.iinc 9 1, 3) := by decide +kernel
theorem dL_isCard_45 : decode cL_isCard 45 = .ok (.goto (-33), 3) := by decide +kernel
theorem dL_isCard_48 : decode cL_isCard 48 = .ok (.iconst 0, 1) := by decide +kernel
theorem dL_isCard_49 : decode cL_isCard 49 = .ok (.istore 9, 2) := by decide +kernel
theorem dL_isCard_51 : decode cL_isCard 51 = .ok (.iload 9, 2) := by decide +kernel
theorem dL_isCard_53 : decode cL_isCard 53 = .ok (.aload 4, 2) := by decide +kernel
theorem dL_isCard_55 : decode cL_isCard 55 = .ok (.iload_n 1, 1) := by decide +kernel
theorem dL_isCard_56 : decode cL_isCard 56 = .ok (.iaload, 1) := by decide +kernel
theorem dL_isCard_57 : decode cL_isCard 57 = .ok (.if_icmp .ge 63, 3) := by decide +kernel
theorem dL_isCard_60 : decode cL_isCard 60 = .ok (.iload 7, 2) := by decide +kernel
theorem dL_isCard_62 : decode cL_isCard 62 = .ok (.aload_n 3, 1) := by decide +kernel
theorem dL_isCard_63 : decode cL_isCard 63 = .ok (.iload_n 1, 1) := by decide +kernel
theorem dL_isCard_64 : decode cL_isCard 64 = .ok (.iload 9, 2) := by decide +kernel
theorem dL_isCard_66 : decode cL_isCard 66 = .ok (.invokestatic 30, 3) := by decide +kernel
theorem dL_isCard_69 : decode cL_isCard 69 = .ok (.bipush 40, 2) := by decide +kernel
theorem dL_isCard_71 : decode cL_isCard 71 = .ok (.if_icmp .ne 7, 3) := by decide +kernel
theorem dL_isCard_74 : decode cL_isCard 74 = .ok (.iconst 1, 1) := by decide +kernel
theorem dL_isCard_75 : decode cL_isCard 75 = .ok (.goto 20, 3) := by decide +kernel
theorem dL_isCard_78 : decode cL_isCard 78 = .ok (.aload_n 3, 1) := by decide +kernel
theorem dL_isCard_79 : decode cL_isCard 79 = .ok (.iload_n 1, 1) := by decide +kernel
theorem dL_isCard_80 : decode cL_isCard 80 = .ok (.iload 9, 2) := by decide +kernel
theorem dL_isCard_82 : decode cL_isCard 82 = .ok (.invokestatic 30, 3) := by decide +kernel
theorem dL_isCard_85 : decode cL_isCard 85 = .ok (.bipush 41, 2) := by decide +kernel
theorem dL_isCard_87 : decode cL_isCard 87 = .ok (.if_icmp .ne 7, 3) := by decide +kernel
theorem dL_isCard_90 : decode cL_isCard 90 = .ok (.iconst (-1), 1) := by decide +kernel
theorem dL_isCard_91 : decode cL_isCard 91 = .ok (.goto 4, 3) := by decide +kernel
theorem dL_isCard_94 : decode cL_isCard 94 = .ok (.iconst 0, 1) := by decide +kernel
theorem dL_isCard_95 : decode cL_isCard 95 = .ok (.iadd, 1) := by decide +kernel
theorem dL_isCard_96 : decode cL_isCard 96 = .ok (.istore 7, 2) := by decide +kernel
theorem dL_isCard_98 : decode cL_isCard 98 = .ok (.iload 7, 2) := by decide +kernel
theorem dL_isCard_100 : decode cL_isCard 100 = .ok (.iload 8, 2) := by decide +kernel
theorem dL_isCard_102 : decode cL_isCard 102 = .ok (.if_icmp .le 8, 3) := by decide +kernel
theorem dL_isCard_105 : decode cL_isCard 105 = .ok (.iload 7, 2) := by decide +kernel
theorem dL_isCard_107 : decode cL_isCard 107 = .ok (.goto 5, 3) := by decide +kernel
theorem dL_isCard_110 : decode cL_isCard 110 = .ok (.iload 8, 2) := by decide +kernel
theorem dL_isCard_112 : decode cL_isCard 112 = .ok (.istore 8, 2) := by decide +kernel
theorem dL_isCard_114 : decode cL_isCard 114 = .ok (.iinc 9 1, 3) := by decide +kernel
theorem dL_isCard_117 : decode cL_isCard 117 = .ok (.goto (-66), 3) := by decide +kernel
theorem dL_isCard_120 : decode cL_isCard 120 = .ok (.aload_n 0, 1) := by decide +kernel
theorem dL_isCard_121 : decode cL_isCard 121 = .ok (.iload_n 1, 1) := by decide +kernel
theorem dL_isCard_122 : decode cL_isCard 122 = .ok (.iconst 0, 1) := by decide +kernel
theorem dL_isCard_123 : decode cL_isCard 123 = .ok (.invokevirtual 115, 3) := by decide +kernel
theorem dL_isCard_126 : decode cL_isCard 126 = .ok (.aload 4, 2) := by decide +kernel
theorem dL_isCard_128 : decode cL_isCard 128 = .ok (.iload_n 1, 1) := by decide +kernel
theorem dL_isCard_129 : decode cL_isCard 129 = .ok (.iaload, 1) := by decide +kernel
theorem dL_isCard_130 : decode cL_isCard 130 = .ok (.if_icmp .ne 93, 3) := by decide +kernel
theorem dL_isCard_133 : decode cL_isCard 133 = .ok (.aload_n 0, 1) := by decide +kernel
theorem dL_isCard_134 : decode cL_isCard 134 = .ok (.iload_n 1, 1) := by decide +kernel
theorem dL_isCard_135 : decode cL_isCard 135 = .ok (.iconst 1, 1) := by decide +kernel
theorem dL_isCard_136 : decode cL_isCard 136 = .ok (.invokevirtual 115, 3) := by decide +kernel
theorem dL_isCard_139 : decode cL_isCard 139 = .ok (.iload_n 1, 1) := by decide +kernel
theorem dL_isCard_140 : decode cL_isCard 140 = .ok (.aload_n 3, 1) := by decide +kernel
theorem dL_isCard_141 : decode cL_isCard 141 = .ok (.aload 4, 2) := by decide +kernel
theorem dL_isCard_143 : decode cL_isCard 143 = .ok (.invokestatic 118, 3) := by decide +kernel
theorem dL_isCard_146 : decode cL_isCard 146 = .ok (.if_icmp .ne 77, 3) := by decide +kernel
theorem dL_isCard_149 : decode cL_isCard 149 = .ok (.aload_n 0, 1) := by decide +kernel
theorem dL_isCard_150 : decode cL_isCard 150 = .ok (.iload_n 1, 1) := by decide +kernel
theorem dL_isCard_151 : decode cL_isCard 151 = .ok (.iconst 2, 1) := by decide +kernel
theorem dL_isCard_152 : decode cL_isCard 152 = .ok (.invokevirtual 115, 3) := by decide +kernel
theorem dL_isCard_155 : decode cL_isCard 155 = .ok (.iload_n 1, 1) := by decide +kernel
theorem dL_isCard_156 : decode cL_isCard 156 = .ok (.aload_n 3, 1) := by decide +kernel
theorem dL_isCard_157 : decode cL_isCard 157 = .ok (.aload 4, 2) := by decide +kernel
theorem dL_isCard_159 : decode cL_isCard 159 = .ok (.invokestatic 91, 3) := by decide +kernel
theorem dL_isCard_162 : decode cL_isCard 162 = .ok (.if_icmp .ne 61, 3) := by decide +kernel
theorem dL_isCard_165 : decode cL_isCard 165 = .ok (.aload_n 0, 1) := by decide +kernel
theorem dL_isCard_166 : decode cL_isCard 166 = .ok (.iload_n 1, 1) := by decide +kernel
theorem dL_isCard_167 : decode cL_isCard 167 = .ok (.iconst 3, 1) := by decide +kernel
theorem dL_isCard_168 : decode cL_isCard 168 = .ok (.invokevirtual 115, 3) := by decide +kernel
theorem dL_isCard_171 : decode cL_isCard 171 = .ok (.iload_n 1, 1) := by decide +kernel
theorem dL_isCard_172 : decode cL_isCard 172 = .ok (.aload_n 3, 1) := by decide +kernel
theorem dL_isCard_173 : decode cL_isCard 173 = .ok (.aload 4, 2) := by decide +kernel
theorem dL_isCard_175 : decode cL_isCard 175 = .ok (.invokestatic 99, 3) := by decide +kernel
theorem dL_isCard_178 : decode cL_isCard 178 = .ok (.if_icmp .ne 45, 3) := by decide +kernel
theorem dL_isCard_181 : decode cL_isCard 181 = .ok (.aload_n 0, 1) := by decide +kernel
theorem dL_isCard_182 : decode cL_isCard 182 = .ok (.iload_n 1, 1) := by decide +kernel
theorem dL_isCard_183 : decode cL_isCard 183 = .ok (.iconst 4, 1) := by decide +kernel
theorem dL_isCard_184 : decode cL_isCard 184 = .ok (.invokevirtual 115, 3) := by decide +kernel
theorem dL_isCard_187 : decode cL_isCard 187 = .ok (.aload 4, 2) := by decide +kernel
theorem dL_isCard_189 : decode cL_isCard 189 = .ok (.iconst 5, 1) := by decide +kernel
theorem dL_isCard_190 : decode cL_isCard 190 = .ok (.iload_n 1, 1) := by decide +kernel
theorem dL_isCard_191 : decode cL_isCard 191 = .ok (.iadd, 1) := by decide +kernel
theorem dL_isCard_192 : decode cL_isCard 192 = .ok (.iaload, 1) := by decide +kernel
theorem dL_isCard_193 : decode cL_isCard 193 = .ok (.if_icmp .ne 30, 3) := by decide +kernel
theorem dL_isCard_196 : decode cL_isCard 196 = .ok (.aload_n 0, 1) := by decide +kernel
theorem dL_isCard_197 : decode cL_isCard 197 = .ok (.iload_n 1, 1) := by decide +kernel
theorem dL_isCard_198 : decode cL_isCard 198 = .ok (.iconst 5, 1) := by decide +kernel
theorem dL_isCard_199 : decode cL_isCard 199 = .ok (.invokevirtual 115, 3) := by decide +kernel
theorem dL_isCard_202 : decode cL_isCard 202 = .ok (.iload 6, 2) := by decide +kernel
theorem dL_isCard_204 : decode cL_isCard 204 = .ok (.if_icmp .ne 19, 3) := by decide +kernel
theorem dL_isCard_207 : decode cL_isCard 207 = .ok (.aload_n 0, 1) := by decide +kernel
theorem dL_isCard_208 : decode cL_isCard 208 = .ok (.iload_n 1, 1) := by decide +kernel
theorem dL_isCard_209 : decode cL_isCard 209 = .ok (.bipush 6, 2) := by decide +kernel
theorem dL_isCard_211 : decode cL_isCard 211 = .ok (.invokevirtual 115, 3) := by decide +kernel
theorem dL_isCard_214 : decode cL_isCard 214 = .ok (.iload 8, 2) := by decide +kernel
theorem dL_isCard_216 : decode cL_isCard 216 = .ok (.if_icmp .ne 7, 3) := by decide +kernel
theorem dL_isCard_219 : decode cL_isCard 219 = .ok (.iconst 1, 1) := by decide +kernel
theorem dL_isCard_220 : decode cL_isCard 220 = .ok (.goto 4, 3) := by decide +kernel
theorem dL_isCard_223 : decode cL_isCard 223 = .ok (.iconst 0, 1) := by decide +kernel
theorem dL_isCard_224 : decode cL_isCard 224 = .ok (.ireturn, 1) := by decide +kernel
theorem dL_isSo_0 : decode cL_isSo 0 = .ok (.iconst 0, 1) := by decide +kernel
theorem dL_isSo_1 : decode cL_isSo 1 = .ok (.istore 8, 2) := by decide +kernel
theorem dL_isSo_3 : decode cL_isSo 3 = .ok (.iconst 0, 1) := by decide +kernel
theorem dL_isSo_4 : decode cL_isSo 4 = .ok (.istore 9, 2) := by decide +kernel
theorem dL_isSo_6 : decode cL_isSo 6 = .ok (.iconst 0, 1) := by decide +kernel
theorem dL_isSo_7 : decode cL_isSo 7 = .ok (.istore 10, 2) := by decide +kernel
theorem dL_isSo_9 : decode cL_isSo 9 = .ok (.iconst 0, 1) := by decide +kernel
theorem dL_isSo_10 : decode cL_isSo 10 = .ok (.istore 11, 2) := by decide +kernel
theorem dL_isSo_12 : decode cL_isSo 12 = .ok (.iload 11, 2) := by decide +kernel
theorem dL_isSo_14 : decode cL_isSo 14 = .ok (.iconst 5, 1) := by decide +kernel
theorem dL_isSo_15 : decode cL_isSo 15 = .ok (.if_icmp .ge 30, 3) := by decide +kernel
theorem dL_isSo_18 : decode cL_isSo 18 = .ok (.iload 8, 2) := by decide +kernel
theorem dL_isSo_20 : decode cL_isSo 20 = .ok (.aload 5, 2) := by decide +kernel
theorem dL_isSo_22 : decode cL_isSo 22 = .ok (.iload 11, 2) := by decide +kernel
theorem dL_isSo_24 : decode cL_isSo 24 = .ok (.iaload, 1) := by decide +kernel
theorem dL_isSo_25 : decode cL_isSo 25 = .ok (.ifCond .le 10, 3) := by decide +kernel
theorem dL_isSo_28 : decode cL_isSo 28 = .ok (.iconst 1, 1) := by decide +kernel
theorem dL_isSo_29 : decode cL_isSo 29 = .ok (.iload 11, 2) := by decide +kernel
theorem dL_isSo_31 : decode cL_isSo 31 = .ok (.ishl, 1) := by decide +kernel
theorem dL_isSo_32 : decode cL_isSo 32 = .ok (.goto 4, 3) := by decide +kernel
theorem dL_isSo_35 : decode cL_isSo 35 = .ok (.iconst 0, 1) := by decide +kernel
theorem dL_isSo_36 : decode cL_isSo 36 = .ok (.ior, 1) := by decide +kernel
theorem dL_isSo_37 : decode cL_isSo 37 = .ok (.istore 8, 2) := by decide +kernel
theorem dL_isSo_39 : decode cL_isSo 39 = .ok (.iinc 11 1, 3) := by decide +kernel
theorem dL_isSo_42 : decode cL_isSo 42 = .ok (.goto (-30), 3) := by decide +kernel
theorem dL_isSo_45 : decode cL_isSo 45 = .ok (.iconst 0, 1) := by decide +kernel
theorem dL_isSo_46 : decode cL_isSo 46 = .ok (.istore 11, 2) := by decide +kernel
theorem dL_isSo_48 : decode cL_isSo 48 = .ok (.iload 11, 2) := by decide +kernel
theorem dL_isSo_50 : decode cL_isSo 50 = .ok (.bipush 6, 2) := by decide +kernel
theorem dL_isSo_52 : decode cL_isSo 52 = .ok (.if_icmp .ge 30, 3) := by decide +kernel
theorem dL_isSo_55 : decode cL_isSo 55 = .ok (.iload 9, 2) := by decide +kernel
theorem dL_isSo_57 : decode cL_isSo 57 = .ok (.aload_n 3, 1) := by decide +kernel
theorem dL_isSo_58 : decode cL_isSo 58 = .ok (.iload 11, 2) := by decide +kernel
theorem dL_isSo_60 : decode cL_isSo 60 = .ok (.iaload, 1) := by decide +kernel
theorem dL_isSo_61 : decode cL_isSo 61 = .ok (.iadd, 1) := by decide +kernel
theorem dL_isSo_62 : decode cL_isSo 62 = .ok (.istore 9, 2) := by decide +kernel
theorem dL_isSo_64 : decode cL_isSo 64 = .ok (.iload 10, 2) := by decide +kernel
theorem dL_isSo_66 : decode cL_isSo 66 = .ok (.aload_n 3, 1) := by decide +kernel
theorem dL_isSo_67 : decode cL_isSo 67 = .ok (.bipush 12, 2) := by decide +kernel
theorem dL_isSo_69 : decode cL_isSo 69 = .ok (.iload 11, 2) := by decide +kernel
theorem dL_isSo_71 : decode cL_isSo 71 = .ok (.iadd, 1) := by decide +kernel
theorem dL_isSo_72 : decode cL_isSo 72 = .ok (.iaload, 1) := by decide +kernel
theorem dL_isSo_73 : decode cL_isSo 73 = .ok (.iadd, 1) := by decide +kernel
theorem dL_isSo_74 : decode cL_isSo 74 = .ok (.istore 10, 2) := by decide +kernel
theorem dL_isSo_76 : decode cL_isSo 76 = .ok (.iinc 11 1, 3) := by decide +kernel
theorem dL_isSo_79 : decode cL_isSo 79 = .ok (.goto (-31), 3) := by decide +kernel
theorem dL_isSo_82 : decode cL_isSo 82 = .ok (.aload_n 0, 1) := by decide +kernel
theorem dL_isSo_83 : decode cL_isSo 83 = .ok (.iconst 0, 1) := by decide +kernel
theorem dL_isSo_84 : decode cL_isSo 84 = .ok (.invokevirtual 121, 3) := by decide +kernel
theorem dL_isSo_87 : decode cL_isSo 87 = .ok (.iload 8, 2) := by decide +kernel
theorem dL_isSo_89 : decode cL_isSo 89 = .ok (.if_icmp .ne 135, 3) := by decide +kernel
theorem dL_isSo_92 : decode cL_isSo 92 = .ok (.aload_n 0, 1) := by decide +kernel
theorem dL_isSo_93 : decode cL_isSo 93 = .ok (.iconst 1, 1) := by decide +kernel
theorem dL_isSo_94 : decode cL_isSo 94 = .ok (.invokevirtual 121, 3) := by decide +kernel
theorem dL_isSo_97 : decode cL_isSo 97 = .ok (.aload_n 2, 1) := by decide +kernel
theorem dL_isSo_98 : decode cL_isSo 98 = .ok (.iconst 3, 1) := by decide +kernel
theorem dL_isSo_99 : decode cL_isSo 99 = .ok (.iaload, 1) := by decide +kernel
theorem dL_isSo_100 : decode cL_isSo 100 = .ok (.if_icmp .ne 124, 3) := by decide +kernel
theorem dL_isSo_103 : decode cL_isSo 103 = .ok (.aload_n 0, 1) := by decide +kernel
theorem dL_isSo_104 : decode cL_isSo 104 = .ok (.iconst 2, 1) := by decide +kernel
theorem dL_isSo_105 : decode cL_isSo 105 = .ok (.invokevirtual 121, 3) := by decide +kernel
theorem dL_isSo_108 : decode cL_isSo 108 = .ok (.aload_n 2, 1) := by decide +kernel
theorem dL_isSo_109 : decode cL_isSo 109 = .ok (.iconst 4, 1) := by decide +kernel
theorem dL_isSo_110 : decode cL_isSo 110 = .ok (.iaload, 1) := by decide +kernel
theorem dL_isSo_111 : decode cL_isSo 111 = .ok (.if_icmp .ne 113, 3) := by decide +kernel
theorem dL_isSo_114 : decode cL_isSo 114 = .ok (.aload_n 0, 1) := by decide +kernel
theorem dL_isSo_115 : decode cL_isSo 115 = .ok (.iconst 3, 1) := by decide +kernel
theorem dL_isSo_116 : decode cL_isSo 116 = .ok (.invokevirtual 121, 3) := by decide +kernel
theorem dL_isSo_119 : decode cL_isSo 119 = .ok (.aload_n 2, 1) := by decide +kernel
theorem dL_isSo_120 : decode cL_isSo 120 = .ok (.iconst 5, 1) := by decide +kernel
theorem dL_isSo_121 : decode cL_isSo 121 = .ok (.iaload, 1) := by decide +kernel
theorem dL_isSo_122 : decode cL_isSo 122 = .ok (.if_icmp .ne 102, 3) := by decide +kernel
theorem dL_isSo_125 : decode cL_isSo 125 = .ok (.aload_n 0, 1) := by decide +kernel
theorem dL_isSo_126 : decode cL_isSo 126 = .ok (.iconst 4, 1) := by decide +kernel
theorem dL_isSo_127 : decode cL_isSo 127 = .ok (.invokevirtual 121, 3) := by decide +kernel
theorem dL_isSo_130 : decode cL_isSo 130 = .ok (.aload_n 2, 1) := by decide +kernel
theorem dL_isSo_131 : decode cL_isSo 131 = .ok (.bipush 6, 2) := by decide +kernel
theorem dL_isSo_133 : decode cL_isSo 133 = .ok (.iaload, 1) := by decide +kernel
theorem dL_isSo_134 : decode cL_isSo 134 = .ok (.if_icmp .ne 90, 3) := by decide +kernel
theorem dL_isSo_137 : decode cL_isSo 137 = .ok (.aload_n 0, 1) := by decide +kernel
theorem dL_isSo_138 : decode cL_isSo 138 = .ok (.iconst 5, 1) := by decide +kernel
theorem dL_isSo_139 : decode cL_isSo 139 = .ok (.invokevirtual 121, 3) := by decide +kernel
theorem dL_isSo_142 : decode cL_isSo 142 = .ok (.aload_n 2, 1) := by decide +kernel
theorem dL_isSo_143 : decode cL_isSo 143 = .ok (.bipush 7, 2) := by decide +kernel
theorem dL_isSo_145 : decode cL_isSo 145 = .ok (.iaload, 1) := by decide +kernel
theorem dL_isSo_146 : decode cL_isSo 146 = .ok (.if_icmp .ne 78, 3) := by decide +kernel
theorem dL_isSo_149 : decode cL_isSo 149 = .ok (.aload_n 0, 1) := by decide +kernel
theorem dL_isSo_150 : decode cL_isSo 150 = .ok (.bipush 6, 2) := by decide +kernel
theorem dL_isSo_152 : decode cL_isSo 152 = .ok (.invokevirtual 121, 3) := by decide +kernel
theorem dL_isSo_155 : decode cL_isSo 155 = .ok (.aload_n 2, 1) := by decide +kernel
theorem dL_isSo_156 : decode cL_isSo 156 = .ok (.bipush 8, 2) := by decide +kernel
theorem dL_isSo_158 : decode cL_isSo 158 = .ok (.iaload, 1) := by decide +kernel
theorem dL_isSo_159 : decode cL_isSo 159 = .ok (.if_icmp .ne 65, 3) := by decide +kernel
theorem dL_isSo_162 : decode cL_isSo 162 = .ok (.aload_n 0, 1) := by decide +kernel
theorem dL_isSo_163 : decode cL_isSo 163 = .ok (.bipush 7, 2) := by decide +kernel
theorem dL_isSo_165 : decode cL_isSo 165 = .ok (.invokevirtual 121, 3) := by decide +kernel
theorem dL_isSo_168 : decode cL_isSo 168 = .ok (.iload 10, 2) := by decide +kernel
theorem dL_isSo_170 : decode cL_isSo 170 = .ok (.if_icmp .ne 54, 3) := by decide +kernel
theorem dL_isSo_173 : decode cL_isSo 173 = .ok (.aload_n 0, 1) := by decide +kernel
theorem dL_isSo_174 : decode cL_isSo 174 = .ok (.bipush 8, 2) := by decide +kernel
theorem dL_isSo_176 : decode cL_isSo 176 = .ok (.invokevirtual 121, 3) := by decide +kernel
theorem dL_isSo_179 : decode cL_isSo 179 = .ok (.iload 9, 2) := by decide +kernel
theorem dL_isSo_181 : decode cL_isSo 181 = .ok (.if_icmp .ne 43, 3) := by decide +kernel
theorem dL_isSo_184 : decode cL_isSo 184 = .ok (.aload_n 0, 1) := by decide +kernel
theorem dL_isSo_185 : decode cL_isSo 185 = .ok (.bipush 9, 2) := by decide +kernel
theorem dL_isSo_187 : decode cL_isSo 187 = .ok (.invokevirtual 121, 3) := by decide +kernel
theorem dL_isSo_190 : decode cL_isSo 190 = .ok (.aload_n 2, 1) := by decide +kernel
theorem dL_isSo_191 : decode cL_isSo 191 = .ok (.iconst 0, 1) := by decide +kernel
theorem dL_isSo_192 : decode cL_isSo 192 = .ok (.iaload, 1) := by decide +kernel
theorem dL_isSo_193 : decode cL_isSo 193 = .ok (.if_icmp .ne 31, 3) := by decide +kernel
theorem dL_isSo_196 : decode cL_isSo 196 = .ok (.aload_n 0, 1) := by decide +kernel
theorem dL_isSo_197 : decode cL_isSo 197 = .ok (.bipush 10, 2) := by decide +kernel
theorem dL_isSo_199 : decode cL_isSo 199 = .ok (.invokevirtual 121, 3) := by decide +kernel
theorem dL_isSo_202 : decode cL_isSo 202 = .ok (.aload_n 2, 1) := by decide +kernel
theorem dL_isSo_203 : decode cL_isSo 203 = .ok (.iconst 1, 1) := by decide +kernel
theorem dL_isSo_204 : decode cL_isSo 204 = .ok (.iaload, 1) := by decide +kernel
theorem dL_isSo_205 : decode cL_isSo 205 = .ok (.if_icmp .ne 19, 3) := by decide +kernel
theorem dL_isSo_208 : decode cL_isSo 208 = .ok (.aload_n 0, 1) := by decide +kernel
theorem dL_isSo_209 : decode cL_isSo 209 = .ok (.bipush 11, 2) := by decide +kernel
theorem dL_isSo_211 : decode cL_isSo 211 = .ok (.invokevirtual 121, 3) := by decide +kernel
theorem dL_isSo_214 : decode cL_isSo 214 = .ok (.aload_n 2, 1) := by decide +kernel
theorem dL_isSo_215 : decode cL_isSo 215 = .ok (.iconst 2, 1) := by decide +kernel
theorem dL_isSo_216 : decode cL_isSo 216 = .ok (.iaload, 1) := by decide +kernel
theorem dL_isSo_217 : decode cL_isSo 217 = .ok (.if_icmp .ne 7, 3) := by decide +kernel
theorem dL_isSo_220 : decode cL_isSo 220 = .ok (.iconst 1, 1) := by decide +kernel
theorem dL_isSo_221 : decode cL_isSo 221 = .ok (.goto 4, 3) := by decide +kernel
theorem dL_isSo_224 : decode cL_isSo 224 = .ok (.iconst 0, 1) := by decide +kernel
theorem dL_isSo_225 : decode cL_isSo 225 = .ok (.istore 11, 2) := by decide +kernel
theorem dL_isSo_227 : decode cL_isSo 227 = .ok (.iconst 0, 1) := by decide +kernel
theorem dL_isSo_228 : decode cL_isSo 228 = .ok (.istore 12, 2) := by decide +kernel
theorem dL_isSo_230 : decode cL_isSo 230 = .ok (.iload 12, 2) := by decide +kernel
theorem dL_isSo_232 : decode cL_isSo 232 = .ok (.aload_n 2, 1) := by decide +kernel
theorem dL_isSo_233 : decode cL_isSo 233 = .ok (.iconst 3, 1) := by decide +kernel
theorem dL_isSo_234 : decode cL_isSo 234 = .ok (.iaload, 1) := by decide +kernel
theorem dL_isSo_235 : decode cL_isSo 235 = .ok (.if_icmp .ge 100, 3) := by decide +kernel
theorem dL_isSo_238 : decode cL_isSo 238 = .ok (.bipush 6, 2) := by decide +kernel
theorem dL_isSo_240 : decode cL_isSo 240 = .ok (.aload_n 2, 1) := by decide +kernel
theorem dL_isSo_241 : decode cL_isSo 241 = .ok (.iconst 3, 1) := by decide +kernel
theorem dL_isSo_242 : decode cL_isSo 242 = .ok (.iaload, 1) := by decide +kernel
theorem dL_isSo_243 : decode cL_isSo 243 = .ok (.iconst 1, 1) := by decide +kernel
theorem dL_isSo_244 : decode cL_isSo 244 = .ok (.isub, 1) := by decide +kernel
theorem dL_isSo_245 : decode cL_isSo 245 = .ok (.iload 12, 2) := by decide +kernel
theorem dL_isSo_247 : decode cL_isSo 247 = .ok (.isub, 1) := by decide +kernel
theorem dL_isSo_248 : decode cL_isSo 248 = .ok (.imul, 1) := by decide +kernel
theorem dL_isSo_249 : decode cL_isSo 249 = .ok (.istore 13, 2) := by decide +kernel
theorem dL_isSo_251 : decode cL_isSo 251 = .ok (.iload 11, 2) := by decide +kernel
theorem dL_isSo_253 : decode cL_isSo 253 = .ok (.ifCond .eq 73, 3) := by decide +kernel
theorem dL_isSo_256 : decode cL_isSo 256 = .ok (.aload_n 0, 1) := by decide +kernel
theorem dL_isSo_257 : decode cL_isSo 257 = .ok (.iload 12, 2) := by decide +kernel
theorem dL_isSo_259 : decode cL_isSo 259 = .ok (.iconst 0, 1) := by decide +kernel
theorem dL_isSo_260 : decode cL_isSo 260 = .ok (.invokevirtual 124, 3) := by decide +kernel
theorem dL_isSo_263 : decode cL_isSo 263 = .ok (.aload 6, 2) := by decide +kernel
theorem dL_isSo_265 : decode cL_isSo 265 = .ok (.iload 13, 2) := by decide +kernel
theorem dL_isSo_267 : decode cL_isSo 267 = .ok (.iaload, 1) := by decide +kernel
theorem dL_isSo_268 : decode cL_isSo 268 = .ok (.if_icmp .ne 58, 3) := by decide +kernel
theorem dL_isSo_271 : decode cL_isSo 271 = .ok (.aload_n 0, 1) := by decide +kernel
theorem dL_isSo_272 : decode cL_isSo 272 = .ok (.iload 12, 2) := by decide +kernel
theorem dL_isSo_274 : decode cL_isSo 274 = .ok (.iconst 1, 1) := by decide +kernel
theorem dL_isSo_275 : decode cL_isSo 275 = .ok (.invokevirtual 124, 3) := by decide +kernel
theorem dL_isSo_278 : decode cL_isSo 278 = .ok (.aload 6, 2) := by decide +kernel
theorem dL_isSo_280 : decode cL_isSo 280 = .ok (.iload 13, 2) := by decide +kernel
theorem dL_isSo_282 : decode cL_isSo 282 = .ok (.iconst 1, 1) := by decide +kernel
theorem dL_isSo_283 : decode cL_isSo 283 = .ok (.iadd, 1) := by decide +kernel
theorem dL_isSo_284 : decode cL_isSo 284 = .ok (.iaload, 1) := by decide +kernel
theorem dL_isSo_285 : decode cL_isSo 285 = .ok (.if_icmp .ne 41, 3) := by decide +kernel
theorem dL_isSo_288 : decode cL_isSo 288 = .ok (.aload_n 0, 1) := by decide +kernel
theorem dL_isSo_289 : decode cL_isSo 289 = .ok (.iload 12, 2) := by decide +kernel
theorem dL_isSo_291 : decode cL_isSo 291 = .ok (.iconst 2, 1) := by decide +kernel
theorem dL_isSo_292 : decode cL_isSo 292 = .ok (.invokevirtual 124, 3) := by decide +kernel
theorem dL_isSo_295 : decode cL_isSo 295 = .ok (.aload 6, 2) := by decide +kernel
theorem dL_isSo_297 : decode cL_isSo 297 = .ok (.iload 13, 2) := by decide +kernel
theorem dL_isSo_299 : decode cL_isSo 299 = .ok (.iconst 2, 1) := by decide +kernel
theorem dL_isSo_300 : decode cL_isSo 300 = .ok (.iadd, 1) := by decide +kernel
theorem dL_isSo_301 : decode cL_isSo 301 = .ok (.iaload, 1) := by decide +kernel
theorem dL_isSo_302 : decode cL_isSo 302 = .ok (.if_icmp .ne 24, 3) := by decide +kernel
theorem dL_isSo_305 : decode cL_isSo 305 = .ok (.aload_n 0, 1) := by decide +kernel
theorem dL_isSo_306 : decode cL_isSo 306 = .ok (.iload 12, 2) := by decide +kernel
theorem dL_isSo_308 : decode cL_isSo 308 = .ok (.iconst 3, 1) := by decide +kernel
theorem dL_isSo_309 : decode cL_isSo 309 = .ok (.invokevirtual 124, 3) := by decide +kernel
theorem dL_isSo_312 : decode cL_isSo 312 = .ok (.aload 6, 2) := by decide +kernel
theorem dL_isSo_314 : decode cL_isSo 314 = .ok (.iload 13, 2) := by decide +kernel
theorem dL_isSo_316 : decode cL_isSo 316 = .ok (.iconst 4, 1) := by decide +kernel
theorem dL_isSo_317 : decode cL_isSo 317 = .ok (.iadd, 1) := by decide +kernel
theorem dL_isSo_318 : decode cL_isSo 318 = .ok (.iaload, 1) := by decide +kernel
theorem dL_isSo_319 : decode cL_isSo 319 = .ok (.if_icmp .ne 7, 3) := by decide +kernel
theorem dL_isSo_322 : decode cL_isSo 322 = .ok (.iconst 1, 1) := by decide +kernel
theorem dL_isSo_323 : decode cL_isSo 323 = .ok (.goto 4, 3) := by decide +kernel
theorem dL_isSo_326 : decode cL_isSo 326 = .ok (.iconst 0, 1) := by decide +kernel
theorem dL_isSo_327 : decode cL_isSo 327 = .ok (.istore 11, 2) := by decide +kernel
theorem dL_isSo_329 : decode cL_isSo 329 = .ok (.iinc 12 1, 3) := by decide +kernel
theorem dL_isSo_332 : decode cL_isSo 332 = .ok (.goto (-102), 3) := by decide +kernel
theorem dL_isSo_335 : decode cL_isSo 335 = .ok (.iload_n 1, 1) := by decide +kernel
theorem dL_isSo_336 : decode cL_isSo 336 = .ok (.sipush 401, 3) := by decide +kernel
theorem dL_isSo_339 : decode cL_isSo 339 = .ok (.invokestatic 20, 3) := by decide +kernel
theorem dL_isSo_342 : decode cL_isSo 342 = .ok (.istore 12, 2) := by decide +kernel
theorem dL_isSo_344 : decode cL_isSo 344 = .ok (.iload 11, 2) := by decide +kernel
theorem dL_isSo_346 : decode cL_isSo 346 = .ok (.ifCond .eq 75, 3) := by decide +kernel
theorem dL_isSo_349 : decode cL_isSo 349 = .ok (.aload_n 0, 1) := by decide +kernel
theorem dL_isSo_350 : decode cL_isSo 350 = .ok (.aload_n 2, 1) := by decide +kernel
theorem dL_isSo_351 : decode cL_isSo 351 = .ok (.iconst 3, 1) := by decide +kernel
theorem dL_isSo_352 : decode cL_isSo 352 = .ok (.iaload, 1) := by decide +kernel
theorem dL_isSo_353 : decode cL_isSo 353 = .ok (.iconst 0, 1) := by decide +kernel
theorem dL_isSo_354 : decode cL_isSo 354 = .ok (.invokevirtual 124, 3) := by decide +kernel
theorem dL_isSo_357 : decode cL_isSo 357 = .ok (.iconst (-1), 1) := by decide +kernel
theorem dL_isSo_358 : decode cL_isSo 358 = .ok (.if_icmp .ne 63, 3) := by decide +kernel
theorem dL_isSo_361 : decode cL_isSo 361 = .ok (.aload_n 0, 1) := by decide +kernel
theorem dL_isSo_362 : decode cL_isSo 362 = .ok (.iload 12, 2) := by decide +kernel
theorem dL_isSo_364 : decode cL_isSo 364 = .ok (.invokevirtual 127, 3) := by decide +kernel
theorem dL_isSo_367 : decode cL_isSo 367 = .ok (.iload 12, 2) := by decide +kernel
theorem dL_isSo_369 : decode cL_isSo 369 = .ok (.aload_n 2, 1) := by decide +kernel
theorem dL_isSo_370 : decode cL_isSo 370 = .ok (.iconst 4, 1) := by decide +kernel
theorem dL_isSo_371 : decode cL_isSo 371 = .ok (.iaload, 1) := by decide +kernel
theorem dL_isSo_372 : decode cL_isSo 372 = .ok (.if_icmp .ge 13, 3) := by decide +kernel
theorem dL_isSo_375 : decode cL_isSo 375 = .ok (.iload 12, 2) := by decide +kernel
theorem dL_isSo_377 : decode cL_isSo 377 = .ok (.aload 7, 2) := by decide +kernel
theorem dL_isSo_379 : decode cL_isSo 379 = .ok (.invokestatic 102, 3) := by decide +kernel
theorem dL_isSo_382 : decode cL_isSo 382 = .ok (.goto 4, 3) := by decide +kernel
theorem dL_isSo_385 : decode cL_isSo 385 = .ok (.iconst (-1), 1) := by decide +kernel
theorem dL_isSo_386 : decode cL_isSo 386 = .ok (.if_icmp .ne 35, 3) := by decide +kernel
theorem dL_isSo_389 : decode cL_isSo 389 = .ok (.aload_n 2, 1) := by decide +kernel
theorem dL_isSo_390 : decode cL_isSo 390 = .ok (.iconst 4, 1) := by decide +kernel
theorem dL_isSo_391 : decode cL_isSo 391 = .ok (.iaload, 1) := by decide +kernel
theorem dL_isSo_392 : decode cL_isSo 392 = .ok (.ifCond .eq 25, 3) := by decide +kernel
theorem dL_isSo_395 : decode cL_isSo 395 = .ok (.aload_n 0, 1) := by decide +kernel
theorem dL_isSo_396 : decode cL_isSo 396 = .ok (.aload_n 2, 1) := by decide +kernel
theorem dL_isSo_397 : decode cL_isSo 397 = .ok (.iconst 4, 1) := by decide +kernel
theorem dL_isSo_398 : decode cL_isSo 398 = .ok (.iaload, 1) := by decide +kernel
theorem dL_isSo_399 : decode cL_isSo 399 = .ok (.iconst 1, 1) := by decide +kernel
theorem dL_isSo_400 : decode cL_isSo 400 = .ok (.isub, 1) := by decide +kernel
theorem dL_isSo_401 : decode cL_isSo 401 = .ok (.invokevirtual 127, 3) := by decide +kernel
theorem dL_isSo_404 : decode cL_isSo 404 = .ok (.aload_n 2, 1) := by decide +kernel
theorem dL_isSo_405 : decode cL_isSo 405 = .ok (.iconst 4, 1) := by decide +kernel
theorem dL_isSo_406 : decode cL_isSo 406 = .ok (.iaload, 1) := by decide +kernel
theorem dL_isSo_407 : decode cL_isSo 407 = .ok (.iconst 1, 1) := by decide +kernel
theorem dL_isSo_408 : decode cL_isSo 408 = .ok (.isub, 1) := by decide +kernel
theorem dL_isSo_409 : decode cL_isSo 409 = .ok (.aload 7, 2) := by decide +kernel
theorem dL_isSo_411 : decode cL_isSo 411 = .ok (.invokestatic 102, 3) := by decide +kernel
theorem dL_isSo_414 : decode cL_isSo 414 = .ok (.if_icmp .ne 7, 3) := by decide +kernel
theorem dL_isSo_417 : decode cL_isSo 417 = .ok (.iconst 1, 1) := by decide +kernel
theorem dL_isSo_418 : decode cL_isSo 418 = .ok (.goto 4, 3) := by decide +kernel
theorem dL_isSo_421 : decode cL_isSo 421 = .ok (.iconst 0, 1) := by decide +kernel
theorem dL_isSo_422 : decode cL_isSo 422 = .ok (.istore 11, 2) := by decide +kernel
theorem dL_isSo_424 : decode cL_isSo 424 = .ok (.iload 11, 2) := by decide +kernel
theorem dL_isSo_426 : decode cL_isSo 426 = .ok (.ifCond .eq 57, 3) := by decide +kernel
theorem dL_isSo_429 : decode cL_isSo 429 = .ok (.aload_n 0, 1) := by decide +kernel
theorem dL_isSo_430 : decode cL_isSo 430 = .ok (.iload_n 1, 1) := by decide +kernel
theorem dL_isSo_431 : decode cL_isSo 431 = .ok (.iconst 4, 1) := by decide +kernel
theorem dL_isSo_432 : decode cL_isSo 432 = .ok (.ishr, 1) := by decide +kernel
theorem dL_isSo_433 : decode cL_isSo 433 = .ok (.bipush 6, 2) := by decide +kernel
theorem dL_isSo_435 : decode cL_isSo 435 = .ok (.invokestatic 20, 3) := by decide +kernel
theorem dL_isSo_438 : decode cL_isSo 438 = .ok (.iload_n 1, 1) := by decide +kernel
theorem dL_isSo_439 : decode cL_isSo 439 = .ok (.bipush 7, 2) := by decide +kernel
theorem dL_isSo_441 : decode cL_isSo 441 = .ok (.ishr, 1) := by decide +kernel
theorem dL_isSo_442 : decode cL_isSo 442 = .ok (.bipush 6, 2) := by decide +kernel
theorem dL_isSo_444 : decode cL_isSo 444 = .ok (.invokestatic 20, 3) := by decide +kernel
theorem dL_isSo_447 : decode cL_isSo 447 = .ok (.aload_n 2, 1) := by decide +kernel
theorem dL_isSo_448 : decode cL_isSo 448 = .ok (.aload_n 3, 1) := by decide +kernel
theorem dL_isSo_449 : decode cL_isSo 449 = .ok (.aload 7, 2) := by decide +kernel
theorem dL_isSo_451 : decode cL_isSo 451 = .ok (.invokestatic 130, 3) := by decide +kernel
theorem dL_isSo_454 : decode cL_isSo 454 = .ok (.ifCond .eq 29, 3) := by decide +kernel
theorem dL_isSo_457 : decode cL_isSo 457 = .ok (.aload_n 0, 1) := by decide +kernel
theorem dL_isSo_458 : decode cL_isSo 458 = .ok (.iload_n 1, 1) := by decide +kernel
theorem dL_isSo_459 : decode cL_isSo 459 = .ok (.bipush 10, 2) := by decide +kernel
theorem dL_isSo_461 : decode cL_isSo 461 = .ok (.ishr, 1) := by decide +kernel
theorem dL_isSo_462 : decode cL_isSo 462 = .ok (.iconst 5, 1) := by decide +kernel
theorem dL_isSo_463 : decode cL_isSo 463 = .ok (.invokestatic 20, 3) := by decide +kernel
theorem dL_isSo_466 : decode cL_isSo 466 = .ok (.aload_n 2, 1) := by decide +kernel
theorem dL_isSo_467 : decode cL_isSo 467 = .ok (.aload 4, 2) := by decide +kernel
theorem dL_isSo_469 : decode cL_isSo 469 = .ok (.aload 5, 2) := by decide +kernel
theorem dL_isSo_471 : decode cL_isSo 471 = .ok (.aload 6, 2) := by decide +kernel
theorem dL_isSo_473 : decode cL_isSo 473 = .ok (.invokestatic 134, 3) := by decide +kernel
theorem dL_isSo_476 : decode cL_isSo 476 = .ok (.ifCond .eq 7, 3) := by decide +kernel
theorem dL_isSo_479 : decode cL_isSo 479 = .ok (.iconst 1, 1) := by decide +kernel
theorem dL_isSo_480 : decode cL_isSo 480 = .ok (.goto 4, 3) := by decide +kernel
theorem dL_isSo_483 : decode cL_isSo 483 = .ok (.iconst 0, 1) := by decide +kernel
theorem dL_isSo_484 : decode cL_isSo 484 = .ok (.ireturn, 1) := by decide +kernel
theorem dL_told_0 : decode cL_told 0 = .ok (.ldc2_w 138, 3) := by decide +kernel
theorem dL_told_3 : decode cL_told 3 = .ok (.lstore_n 1, 1) := by decide +kernel
theorem dL_told_4 : decode cL_told 4 = .ok (.iconst 0, 1) := by decide +kernel
theorem dL_told_5 : decode cL_told 5 = .ok (.istore_n 3, 1) := by decide +kernel
theorem dL_told_6 : decode cL_told 6 = .ok (.iload_n 3, 1) := by decide +kernel
theorem dL_told_7 : decode cL_told 7 = .ok (.bipush 12, 2) := by decide +kernel
theorem dL_told_9 : decode cL_told 9 = .ok (.if_icmp .ge 22, 3) := by decide +kernel
theorem dL_told_12 : decode cL_told 12 = .ok (.ldc2_w 140, 3) := by decide +kernel
theorem dL_told_15 : decode cL_told 15 = .ok (.lload_n 1, 1) := by decide +kernel
theorem dL_told_16 : decode cL_told 16 = .ok (.lmul, 1) := by decide +kernel
theorem dL_told_17 : decode cL_told 17 = .ok (.aload_n 0, 1) := by decide +kernel
theorem dL_told_18 : decode cL_told 18 = .ok (.iload_n 3, 1) := by decide +kernel
theorem dL_told_19 : decode cL_told 19 = .ok (.invokevirtual 121, 3) := by decide +kernel
theorem dL_told_22 : decode cL_told 22 = .ok (.i2l, 1) := by decide +kernel
theorem dL_told_23 : decode cL_told 23 = .ok (.ladd, 1) := by decide +kernel
theorem dL_told_24 : decode cL_told 24 = .ok (.lstore_n 1, 1) := by decide +kernel
theorem dL_told_25 : decode cL_told 25 = .ok (.iinc 3 1, 3) := by decide +kernel
theorem dL_told_28 : decode cL_told 28 = .ok (.goto (-22), 3) := by decide +kernel
theorem dL_told_31 : decode cL_told 31 = .ok (.iconst 0, 1) := by decide +kernel
theorem dL_told_32 : decode cL_told 32 = .ok (.istore_n 3, 1) := by decide +kernel
theorem dL_told_33 : decode cL_told 33 = .ok (.iload_n 3, 1) := by decide +kernel
theorem dL_told_34 : decode cL_told 34 = .ok (.bipush 36, 2) := by decide +kernel
theorem dL_told_36 : decode cL_told 36 = .ok (.if_icmp .ge 45, 3) := by decide +kernel
theorem dL_told_39 : decode cL_told 39 = .ok (.ldc2_w 140, 3) := by decide +kernel
theorem dL_told_42 : decode cL_told 42 = .ok (.ldc2_w 140, 3) := by decide +kernel
theorem dL_told_45 : decode cL_told 45 = .ok (.lload_n 1, 1) := by decide +kernel
theorem dL_told_46 : decode cL_told 46 = .ok (.lmul, 1) := by decide +kernel
theorem dL_told_47 : decode cL_told 47 = .ok (.aload_n 0, 1) := by decide +kernel
theorem dL_told_48 : decode cL_told 48 = .ok (.iload_n 3, 1) := by decide +kernel
theorem dL_told_49 : decode cL_told 49 = .ok (.bipush 6, 2) := by decide +kernel
theorem dL_told_51 : decode cL_told 51 = .ok (.irem, 1) := by decide +kernel
theorem dL_told_52 : decode cL_told 52 = .ok (.iload_n 3, 1) := by decide +kernel
theorem dL_told_53 : decode cL_told 53 = .ok (.bipush 6, 2) := by decide +kernel
theorem dL_told_55 : decode cL_told 55 = .ok (.idiv, 1) := by decide +kernel
theorem dL_told_56 : decode cL_told 56 = .ok (.invokevirtual 106, 3) := by decide +kernel
theorem dL_told_59 : decode cL_told 59 = .ok (.i2l, 1) := by decide +kernel
theorem dL_told_60 : decode cL_told 60 = .ok (.ladd, 1) := by decide +kernel
theorem dL_told_61 : decode cL_told 61 = .ok (.lmul, 1) := by decide +kernel
theorem dL_told_62 : decode cL_told 62 = .ok (.aload_n 0, 1) := by decide +kernel
theorem dL_told_63 : decode cL_told 63 = .ok (.iload_n 3, 1) := by decide +kernel
theorem dL_told_64 : decode cL_told 64 = .ok (.iconst 4, 1) := by decide +kernel
theorem dL_told_65 : decode cL_told 65 = .ok (.idiv, 1) := by decide +kernel
theorem dL_told_66 : decode cL_told 66 = .ok (.iload_n 3, 1) := by decide +kernel
theorem dL_told_67 : decode cL_told 67 = .ok (.iconst 4, 1) := by decide +kernel
theorem dL_told_68 : decode cL_told 68 = .ok (.irem, 1) := by decide +kernel
theorem dL_told_69 : decode cL_told 69 = .ok (.invokevirtual 124, 3) := by decide +kernel
theorem dL_told_72 : decode cL_told 72 = .ok (.i2l, 1) := by decide +kernel
theorem dL_told_73 : decode cL_told 73 = .ok (.ladd, 1) := by decide +kernel
theorem dL_told_74 : decode cL_told 74 = .ok (.lstore_n 1, 1) := by decide +kernel
theorem dL_told_75 : decode cL_told 75 = .ok (.iinc 3 1, 3) := by decide +kernel
theorem dL_told_78 : decode cL_told 78 = .ok (.goto (-45), 3) := by decide +kernel
theorem dL_told_81 : decode cL_told 81 = .ok (.iconst 0, 1) := by decide +kernel
theorem dL_told_82 : decode cL_told 82 = .ok (.istore_n 3, 1) := by decide +kernel
theorem dL_told_83 : decode cL_told 83 = .ok (.iload_n 3, 1) := by decide +kernel
theorem dL_told_84 : decode cL_told 84 = .ok (.iconst 5, 1) := by decide +kernel
theorem dL_told_85 : decode cL_told 85 = .ok (.if_icmp .ge 47, 3) := by decide +kernel
theorem dL_told_88 : decode cL_told 88 = .ok (.ldc2_w 140, 3) := by decide +kernel
theorem dL_told_91 : decode cL_told 91 = .ok (.ldc2_w 140, 3) := by decide +kernel
theorem dL_told_94 : decode cL_told 94 = .ok (.lload_n 1, 1) := by decide +kernel
theorem dL_told_95 : decode cL_told 95 = .ok (.lmul, 1) := by decide +kernel
theorem dL_told_96 : decode cL_told 96 = .ok (.aload_n 0, 1) := by decide +kernel
theorem dL_told_97 : decode cL_told 97 = .ok (.iload_n 3, 1) := by decide +kernel
theorem dL_told_98 : decode cL_told 98 = .ok (.iconst 0, 1) := by decide +kernel
theorem dL_told_99 : decode cL_told 99 = .ok (.invokevirtual 115, 3) := by decide +kernel
theorem dL_told_102 : decode cL_told 102 = .ok (.i2l, 1) := by decide +kernel
theorem dL_told_103 : decode cL_told 103 = .ok (.ladd, 1) := by decide +kernel
theorem dL_told_104 : decode cL_told 104 = .ok (.lmul, 1) := by decide +kernel
theorem dL_told_105 : decode cL_told 105 = .ok (.ldc2_w 142, 3) := by decide +kernel
theorem dL_told_108 : decode cL_told 108 = .ok (.aload_n 0, 1) := by decide +kernel
theorem dL_told_109 : decode cL_told 109 = .ok (.iload_n 3, 1) := by decide +kernel
theorem dL_told_110 : decode cL_told 110 = .ok (.iconst 2, 1) := by decide +kernel
theorem dL_told_111 : decode cL_told 111 = .ok (.invokevirtual 115, 3) := by decide +kernel
theorem dL_told_114 : decode cL_told 114 = .ok (.i2l, 1) := by decide +kernel
theorem dL_told_115 : decode cL_told 115 = .ok (.lmul, 1) := by decide +kernel
theorem dL_told_116 : decode cL_told 116 = .ok (.ladd, 1) := by decide +kernel
theorem dL_told_117 : decode cL_told 117 = .ok (.aload_n 0, 1) := by decide +kernel
theorem dL_told_118 : decode cL_told 118 = .ok (.iload_n 3, 1) := by decide +kernel
theorem dL_told_119 : decode cL_told 119 = .ok (.iconst 4, 1) := by decide +kernel
theorem dL_told_120 : decode cL_told 120 = .ok (.invokevirtual 115, 3) := by decide +kernel
theorem dL_told_123 : decode cL_told 123 = .ok (.i2l, 1) := by decide +kernel
theorem dL_told_124 : decode cL_told 124 = .ok (.ladd, 1) := by decide +kernel
theorem dL_told_125 : decode cL_told 125 = .ok (.lstore_n 1, 1) := by decide +kernel
theorem dL_told_126 : decode cL_told 126 = .ok (.iinc 3 1, 3) := by decide +kernel
theorem dL_told_129 : decode cL_told 129 = .ok (.goto (-46), 3) := by decide +kernel
theorem dL_told_132 : decode cL_told 132 = .ok (.lload_n 1, 1) := by decide +kernel
theorem dL_told_133 : decode cL_told 133 = .ok (.lreturn, 1) := by decide +kernel
theorem dL_law_0 : decode cL_law 0 = .ok (.new 11, 3) := by decide +kernel
theorem dL_law_3 : decode cL_law 3 = .ok (.dup, 1) := by decide +kernel
theorem dL_law_4 : decode cL_law 4 = .ok (.invokespecial 144, 3) := by decide +kernel
theorem dL_law_7 : decode cL_law 7 = .ok (.astore_n 1, 1) := by decide +kernel
theorem dL_law_8 : decode cL_law 8 = .ok (.bipush 10, 2) := by decide +kernel
theorem dL_law_10 : decode cL_law 10 = .ok (.newarray .int, 2) := by decide +kernel
theorem dL_law_12 : decode cL_law 12 = .ok (.astore_n 2, 1) := by decide +kernel
theorem dL_law_13 : decode cL_law 13 = .ok (.bipush 24, 2) := by decide +kernel
theorem dL_law_15 : decode cL_law 15 = .ok (.newarray .int, 2) := by decide +kernel
theorem dL_law_17 : decode cL_law 17 = .ok (.astore_n 3, 1) := by decide +kernel
theorem dL_law_18 : decode cL_law 18 = .ok (.bipush 30, 2) := by decide +kernel
theorem dL_law_20 : decode cL_law 20 = .ok (.newarray .int, 2) := by decide +kernel
theorem dL_law_22 : decode cL_law 22 = .ok (.astore 4, 2) := by decide +kernel
theorem dL_law_24 : decode cL_law 24 = .ok (.bipush 10, 2) := by decide +kernel
theorem dL_law_26 : decode cL_law 26 = .ok (.newarray .int, 2) := by decide +kernel
theorem dL_law_28 : decode cL_law 28 = .ok (.astore 5, 2) := by decide +kernel
theorem dL_law_30 : decode cL_law 30 = .ok (.bipush 54, 2) := by decide +kernel
theorem dL_law_32 : decode cL_law 32 = .ok (.newarray .int, 2) := by decide +kernel
theorem dL_law_34 : decode cL_law 34 = .ok (.astore 6, 2) := by decide +kernel
theorem dL_law_36 : decode cL_law 36 = .ok (.bipush 54, 2) := by decide +kernel
theorem dL_law_38 : decode cL_law 38 = .ok (.newarray .int, 2) := by decide +kernel
theorem dL_law_40 : decode cL_law 40 = .ok (.astore 7, 2) := by decide +kernel
theorem dL_law_42 : decode cL_law 42 = .ok (.bipush 54, 2) := by decide +kernel
theorem dL_law_44 : decode cL_law 44 = .ok (.newarray .int, 2) := by decide +kernel
theorem dL_law_46 : decode cL_law 46 = .ok (.astore 8, 2) := by decide +kernel
theorem dL_law_48 : decode cL_law 48 = .ok (.bipush 40, 2) := by decide +kernel
theorem dL_law_50 : decode cL_law 50 = .ok (.newarray .int, 2) := by decide +kernel
theorem dL_law_52 : decode cL_law 52 = .ok (.astore 9, 2) := by decide +kernel
theorem dL_law_54 : decode cL_law 54 = .ok (.aload_n 2, 1) := by decide +kernel
theorem dL_law_55 : decode cL_law 55 = .ok (.iconst 0, 1) := by decide +kernel
theorem dL_law_56 : decode cL_law 56 = .ok (.iconst 5, 1) := by decide +kernel
theorem dL_law_57 : decode cL_law 57 = .ok (.iastore, 1) := by decide +kernel
theorem dL_law_58 : decode cL_law 58 = .ok (.aload_n 2, 1) := by decide +kernel
theorem dL_law_59 : decode cL_law 59 = .ok (.iconst 1, 1) := by decide +kernel
theorem dL_law_60 : decode cL_law 60 = .ok (.bipush 20, 2) := by decide +kernel
theorem dL_law_62 : decode cL_law 62 = .ok (.iastore, 1) := by decide +kernel
theorem dL_law_63 : decode cL_law 63 = .ok (.aload_n 2, 1) := by decide +kernel
theorem dL_law_64 : decode cL_law 64 = .ok (.iconst 2, 1) := by decide +kernel
theorem dL_law_65 : decode cL_law 65 = .ok (.bipush 10, 2) := by decide +kernel
theorem dL_law_67 : decode cL_law 67 = .ok (.iastore, 1) := by decide +kernel
theorem dL_law_68 : decode cL_law 68 = .ok (.iconst 0, 1) := by decide +kernel
theorem dL_law_69 : decode cL_law 69 = .ok (.istore 10, 2) := by decide +kernel
theorem dL_law_71 : decode cL_law 71 = .ok (.iload 10, 2) := by decide +kernel
theorem dL_law_73 : decode cL_law 73 = .ok (.bipush 6, 2) := by decide +kernel
theorem dL_law_75 : decode cL_law 75 = .ok (.if_icmp .ge 15, 3) := by decide +kernel
theorem dL_law_78 : decode cL_law 78 = .ok (.aload_n 3, 1) := by decide +kernel
theorem dL_law_79 : decode cL_law 79 = .ok (.iload 10, 2) := by decide +kernel
theorem dL_law_81 : decode cL_law 81 = .ok (.bipush 50, 2) := by decide +kernel
theorem dL_law_83 : decode cL_law 83 = .ok (.iastore, 1) := by decide +kernel
theorem dL_law_84 : decode cL_law 84 = .ok (.iinc 10 1, 3) := by decide +kernel
theorem dL_law_87 : decode cL_law 87 = .ok (.goto (-16), 3) := by decide +kernel
theorem dL_law_90 : decode cL_law 90 = .ok (.iconst 0, 1) := by decide +kernel
theorem dL_law_91 : decode cL_law 91 = .ok (.istore 10, 2) := by decide +kernel
theorem dL_law_93 : decode cL_law 93 = .ok (.iload 10, 2) := by decide +kernel
theorem dL_law_95 : decode cL_law 95 = .ok (.bipush 44, 2) := by decide +kernel
theorem dL_law_97 : decode cL_law 97 = .ok (.if_icmp .ge 487, 3) := by decide +kernel
theorem dL_law_100 : decode cL_law 100 = .ok (.aload_n 0, 1) := by decide +kernel
theorem dL_law_101 : decode cL_law 101 = .ok (.iconst 2, 1) := by decide +kernel
theorem dL_law_102 : decode cL_law 102 = .ok (.iload 10, 2) := by decide +kernel
theorem dL_law_104 : decode cL_law 104 = .ok (.imul, 1) := by decide +kernel
theorem dL_law_105 : decode cL_law 105 = .ok (.invokestatic 145, 3) := by decide +kernel
theorem dL_law_108 : decode cL_law 108 = .ok (.istore 11, 2) := by decide +kernel
theorem dL_law_110 : decode cL_law 110 = .ok (.aload_n 0, 1) := by decide +kernel
theorem dL_law_111 : decode cL_law 111 = .ok (.iconst 2, 1) := by decide +kernel
theorem dL_law_112 : decode cL_law 112 = .ok (.iload 10, 2) := by decide +kernel
theorem dL_law_114 : decode cL_law 114 = .ok (.imul, 1) := by decide +kernel
theorem dL_law_115 : decode cL_law 115 = .ok (.iconst 1, 1) := by decide +kernel
theorem dL_law_116 : decode cL_law 116 = .ok (.iadd, 1) := by decide +kernel
theorem dL_law_117 : decode cL_law 117 = .ok (.invokestatic 145, 3) := by decide +kernel
theorem dL_law_120 : decode cL_law 120 = .ok (.istore 12, 2) := by decide +kernel
theorem dL_law_122 : decode cL_law 122 = .ok (.iload 11, 2) := by decide +kernel
theorem dL_law_124 : decode cL_law 124 = .ok (.bipush 24, 2) := by decide +kernel
theorem dL_law_126 : decode cL_law 126 = .ok (.invokestatic 20, 3) := by decide +kernel
theorem dL_law_129 : decode cL_law 129 = .ok (.istore 13, 2) := by decide +kernel
theorem dL_law_131 : decode cL_law 131 = .ok (.iload 10, 2) := by decide +kernel
theorem dL_law_133 : decode cL_law 133 = .ok (.iconst 4, 1) := by decide +kernel
theorem dL_law_134 : decode cL_law 134 = .ok (.if_icmp .lt 9, 3) := by decide +kernel
theorem dL_law_137 : decode cL_law 137 = .ok (.iload 13, 2) := by decide +kernel
theorem dL_law_139 : decode cL_law 139 = .ok (.iconst 3, 1) := by decide +kernel
theorem dL_law_140 : decode cL_law 140 = .ok (.if_icmp .ge 7, 3) := by decide +kernel
theorem dL_law_143 : decode cL_law 143 = .ok (.iconst 0, 1) := by decide +kernel
theorem dL_law_144 : decode cL_law 144 = .ok (.goto 100, 3) := by decide +kernel
theorem dL_law_147 : decode cL_law 147 = .ok (.iload 10, 2) := by decide +kernel
theorem dL_law_149 : decode cL_law 149 = .ok (.iconst 4, 1) := by decide +kernel
theorem dL_law_150 : decode cL_law 150 = .ok (.if_icmp .eq 10, 3) := by decide +kernel
theorem dL_law_153 : decode cL_law 153 = .ok (.iload 13, 2) := by decide +kernel
theorem dL_law_155 : decode cL_law 155 = .ok (.bipush 6, 2) := by decide +kernel
theorem dL_law_157 : decode cL_law 157 = .ok (.if_icmp .ge 7, 3) := by decide +kernel
theorem dL_law_160 : decode cL_law 160 = .ok (.iconst 1, 1) := by decide +kernel
theorem dL_law_161 : decode cL_law 161 = .ok (.goto 83, 3) := by decide +kernel
theorem dL_law_164 : decode cL_law 164 = .ok (.iload 13, 2) := by decide +kernel
theorem dL_law_166 : decode cL_law 166 = .ok (.bipush 13, 2) := by decide +kernel
theorem dL_law_168 : decode cL_law 168 = .ok (.if_icmp .ge 7, 3) := by decide +kernel
theorem dL_law_171 : decode cL_law 171 = .ok (.iconst 2, 1) := by decide +kernel
theorem dL_law_172 : decode cL_law 172 = .ok (.goto 72, 3) := by decide +kernel
theorem dL_law_175 : decode cL_law 175 = .ok (.iload 13, 2) := by decide +kernel
theorem dL_law_177 : decode cL_law 177 = .ok (.bipush 17, 2) := by decide +kernel
theorem dL_law_179 : decode cL_law 179 = .ok (.if_icmp .ge 7, 3) := by decide +kernel
theorem dL_law_182 : decode cL_law 182 = .ok (.iconst 3, 1) := by decide +kernel
theorem dL_law_183 : decode cL_law 183 = .ok (.goto 61, 3) := by decide +kernel
theorem dL_law_186 : decode cL_law 186 = .ok (.iload 13, 2) := by decide +kernel
theorem dL_law_188 : decode cL_law 188 = .ok (.bipush 20, 2) := by decide +kernel
theorem dL_law_190 : decode cL_law 190 = .ok (.if_icmp .ge 7, 3) := by decide +kernel
theorem dL_law_193 : decode cL_law 193 = .ok (.iconst 4, 1) := by decide +kernel
theorem dL_law_194 : decode cL_law 194 = .ok (.goto 50, 3) := by decide +kernel
theorem dL_law_197 : decode cL_law 197 = .ok (.iload 13, 2) := by decide +kernel
theorem dL_law_199 : decode cL_law 199 = .ok (.bipush 20, 2) := by decide +kernel
theorem dL_law_201 : decode cL_law 201 = .ok (.if_icmp .ne 18, 3) := by decide +kernel
theorem dL_law_204 : decode cL_law 204 = .ok (.iload 10, 2) := by decide +kernel
theorem dL_law_206 : decode cL_law 206 = .ok (.iconst 4, 1) := by decide +kernel
theorem dL_law_207 : decode cL_law 207 = .ok (.irem, 1) := by decide +kernel
theorem dL_law_208 : decode cL_law 208 = .ok (.ifCond .ne 7, 3) := by decide +kernel
theorem dL_law_211 : decode cL_law 211 = .ok (.iconst 5, 1) := by decide +kernel
theorem dL_law_212 : decode cL_law 212 = .ok (.goto 32, 3) := by decide +kernel
theorem dL_law_215 : decode cL_law 215 = .ok (.iconst 2, 1) := by decide +kernel
theorem dL_law_216 : decode cL_law 216 = .ok (.goto 28, 3) := by decide +kernel
theorem dL_law_219 : decode cL_law 219 = .ok (.iload 13, 2) := by decide +kernel
theorem dL_law_221 : decode cL_law 221 = .ok (.bipush 21, 2) := by decide +kernel
theorem dL_law_223 : decode cL_law 223 = .ok (.if_icmp .ne 19, 3) := by decide +kernel
theorem dL_law_226 : decode cL_law 226 = .ok (.iload 10, 2) := by decide +kernel
theorem dL_law_228 : decode cL_law 228 = .ok (.iconst 4, 1) := by decide +kernel
theorem dL_law_229 : decode cL_law 229 = .ok (.irem, 1) := by decide +kernel
theorem dL_law_230 : decode cL_law 230 = .ok (.ifCond .ne 8, 3) := by decide +kernel
theorem dL_law_233 : decode cL_law 233 = .ok (.bipush 6, 2) := by decide +kernel
theorem dL_law_235 : decode cL_law 235 = .ok (.goto 9, 3) := by decide +kernel
theorem dL_law_238 : decode cL_law 238 = .ok (.iconst 2, 1) := by decide +kernel
theorem dL_law_239 : decode cL_law 239 = .ok (.goto 5, 3) := by decide +kernel
theorem dL_law_242 : decode cL_law 242 = .ok (.bipush 7, 2) := by decide +kernel
theorem dL_law_244 : decode cL_law 244 = .ok (.istore 13, 2) := by decide +kernel
theorem dL_law_246 : decode cL_law 246 = .ok (.iload 13, 2) := by decide +kernel
theorem dL_law_248 : decode cL_law 248 = .ok (.ifCond .ne 14, 3) := by decide +kernel
theorem dL_law_251 : decode cL_law 251 = .ok (.iload 10, 2) := by decide +kernel
theorem dL_law_253 : decode cL_law 253 = .ok (.iconst 4, 1) := by decide +kernel
theorem dL_law_254 : decode cL_law 254 = .ok (.if_icmp .ge 8, 3) := by decide +kernel
theorem dL_law_257 : decode cL_law 257 = .ok (.iload 10, 2) := by decide +kernel
theorem dL_law_259 : decode cL_law 259 = .ok (.goto 46, 3) := by decide +kernel
theorem dL_law_262 : decode cL_law 262 = .ok (.iload 13, 2) := by decide +kernel
theorem dL_law_264 : decode cL_law 264 = .ok (.iconst 2, 1) := by decide +kernel
theorem dL_law_265 : decode cL_law 265 = .ok (.if_icmp .lt 9, 3) := by decide +kernel
theorem dL_law_268 : decode cL_law 268 = .ok (.iload 13, 2) := by decide +kernel
theorem dL_law_270 : decode cL_law 270 = .ok (.iconst 5, 1) := by decide +kernel
theorem dL_law_271 : decode cL_law 271 = .ok (.if_icmp .ne 12, 3) := by decide +kernel
theorem dL_law_274 : decode cL_law 274 = .ok (.iload 12, 2) := by decide +kernel
theorem dL_law_276 : decode cL_law 276 = .ok (.iconst 5, 1) := by decide +kernel
theorem dL_law_277 : decode cL_law 277 = .ok (.invokestatic 20, 3) := by decide +kernel
theorem dL_law_280 : decode cL_law 280 = .ok (.goto 25, 3) := by decide +kernel
theorem dL_law_283 : decode cL_law 283 = .ok (.iload 13, 2) := by decide +kernel
theorem dL_law_285 : decode cL_law 285 = .ok (.iconst 3, 1) := by decide +kernel
theorem dL_law_286 : decode cL_law 286 = .ok (.if_icmp .ne 13, 3) := by decide +kernel
theorem dL_law_289 : decode cL_law 289 = .ok (.iload 12, 2) := by decide +kernel
theorem dL_law_291 : decode cL_law 291 = .ok (.bipush 6, 2) := by decide +kernel
theorem dL_law_293 : decode cL_law 293 = .ok (.invokestatic 20, 3) := by decide +kernel
theorem dL_law_296 : decode cL_law 296 = .ok (.goto 9, 3) := by decide +kernel
theorem dL_law_299 : decode cL_law 299 = .ok (.iload 12, 2) := by decide +kernel
theorem dL_law_301 : decode cL_law 301 = .ok (.iconst 3, 1) := by decide +kernel
theorem dL_law_302 : decode cL_law 302 = .ok (.invokestatic 20, 3) := by decide +kernel
theorem dL_law_305 : decode cL_law 305 = .ok (.istore 14, 2) := by decide +kernel
theorem dL_law_307 : decode cL_law 307 = .ok (.iload 13, 2) := by decide +kernel
theorem dL_law_309 : decode cL_law 309 = .ok (.bipush 7, 2) := by decide +kernel
theorem dL_law_311 : decode cL_law 311 = .ok (.if_icmp .ne 54, 3) := by decide +kernel
theorem dL_law_314 : decode cL_law 314 = .ok (.iload 14, 2) := by decide +kernel
theorem dL_law_316 : decode cL_law 316 = .ok (.ifCond .ne 17, 3) := by decide +kernel
theorem dL_law_319 : decode cL_law 319 = .ok (.iconst 1, 1) := by decide +kernel
theorem dL_law_320 : decode cL_law 320 = .ok (.iload 12, 2) := by decide +kernel
theorem dL_law_322 : decode cL_law 322 = .ok (.iconst 3, 1) := by decide +kernel
theorem dL_law_323 : decode cL_law 323 = .ok (.ishr, 1) := by decide +kernel
theorem dL_law_324 : decode cL_law 324 = .ok (.bipush 9, 2) := by decide +kernel
theorem dL_law_326 : decode cL_law 326 = .ok (.invokestatic 20, 3) := by decide +kernel
theorem dL_law_329 : decode cL_law 329 = .ok (.iadd, 1) := by decide +kernel
theorem dL_law_330 : decode cL_law 330 = .ok (.goto 63, 3) := by decide +kernel
theorem dL_law_333 : decode cL_law 333 = .ok (.iload 14, 2) := by decide +kernel
theorem dL_law_335 : decode cL_law 335 = .ok (.iconst 1, 1) := by decide +kernel
theorem dL_law_336 : decode cL_law 336 = .ok (.if_icmp .ne 17, 3) := by decide +kernel
theorem dL_law_339 : decode cL_law 339 = .ok (.iconst 2, 1) := by decide +kernel
theorem dL_law_340 : decode cL_law 340 = .ok (.iload 12, 2) := by decide +kernel
theorem dL_law_342 : decode cL_law 342 = .ok (.iconst 3, 1) := by decide +kernel
theorem dL_law_343 : decode cL_law 343 = .ok (.ishr, 1) := by decide +kernel
theorem dL_law_344 : decode cL_law 344 = .ok (.bipush 98, 2) := by decide +kernel
theorem dL_law_346 : decode cL_law 346 = .ok (.invokestatic 20, 3) := by decide +kernel
theorem dL_law_349 : decode cL_law 349 = .ok (.iadd, 1) := by decide +kernel
theorem dL_law_350 : decode cL_law 350 = .ok (.goto 43, 3) := by decide +kernel
theorem dL_law_353 : decode cL_law 353 = .ok (.iload 12, 2) := by decide +kernel
theorem dL_law_355 : decode cL_law 355 = .ok (.iconst 3, 1) := by decide +kernel
theorem dL_law_356 : decode cL_law 356 = .ok (.ishr, 1) := by decide +kernel
theorem dL_law_357 : decode cL_law 357 = .ok (.bipush 60, 2) := by decide +kernel
theorem dL_law_359 : decode cL_law 359 = .ok (.invokestatic 20, 3) := by decide +kernel
theorem dL_law_362 : decode cL_law 362 = .ok (.goto 31, 3) := by decide +kernel
theorem dL_law_365 : decode cL_law 365 = .ok (.iconst 1, 1) := by decide +kernel
theorem dL_law_366 : decode cL_law 366 = .ok (.iload 12, 2) := by decide +kernel
theorem dL_law_368 : decode cL_law 368 = .ok (.iconst 3, 1) := by decide +kernel
theorem dL_law_369 : decode cL_law 369 = .ok (.ishr, 1) := by decide +kernel
theorem dL_law_370 : decode cL_law 370 = .ok (.iload 12, 2) := by decide +kernel
theorem dL_law_372 : decode cL_law 372 = .ok (.bipush 20, 2) := by decide +kernel
theorem dL_law_374 : decode cL_law 374 = .ok (.ishr, 1) := by decide +kernel
theorem dL_law_375 : decode cL_law 375 = .ok (.iconst 3, 1) := by decide +kernel
theorem dL_law_376 : decode cL_law 376 = .ok (.invokestatic 20, 3) := by decide +kernel
theorem dL_law_379 : decode cL_law 379 = .ok (.ifCond .ne 8, 3) := by decide +kernel
theorem dL_law_382 : decode cL_law 382 = .ok (.bipush 99, 2) := by decide +kernel
theorem dL_law_384 : decode cL_law 384 = .ok (.goto 5, 3) := by decide +kernel
theorem dL_law_387 : decode cL_law 387 = .ok (.bipush 12, 2) := by decide +kernel
theorem dL_law_389 : decode cL_law 389 = .ok (.invokestatic 20, 3) := by decide +kernel
theorem dL_law_392 : decode cL_law 392 = .ok (.iadd, 1) := by decide +kernel
theorem dL_law_393 : decode cL_law 393 = .ok (.istore 15, 2) := by decide +kernel
theorem dL_law_395 : decode cL_law 395 = .ok (.aload_n 1, 1) := by decide +kernel
theorem dL_law_396 : decode cL_law 396 = .ok (.invokestatic 149, 3) := by decide +kernel
theorem dL_law_399 : decode cL_law 399 = .ok (.lstore 16, 2) := by decide +kernel
theorem dL_law_401 : decode cL_law 401 = .ok (.iconst 0, 1) := by decide +kernel
theorem dL_law_402 : decode cL_law 402 = .ok (.istore 18, 2) := by decide +kernel
theorem dL_law_404 : decode cL_law 404 = .ok (.iload 13, 2) := by decide +kernel
theorem dL_law_406 : decode cL_law 406 = .ok (.ifCond .ne 45, 3) := by decide +kernel
theorem dL_law_409 : decode cL_law 409 = .ok (.aload 5, 2) := by decide +kernel
theorem dL_law_411 : decode cL_law 411 = .ok (.iload 14, 2) := by decide +kernel
theorem dL_law_413 : decode cL_law 413 = .ok (.iload 14, 2) := by decide +kernel
theorem dL_law_415 : decode cL_law 415 = .ok (.iload 12, 2) := by decide +kernel
theorem dL_law_417 : decode cL_law 417 = .ok (.iconst 3, 1) := by decide +kernel
theorem dL_law_418 : decode cL_law 418 = .ok (.ishr, 1) := by decide +kernel
theorem dL_law_419 : decode cL_law 419 = .ok (.aload_n 1, 1) := by decide +kernel
theorem dL_law_420 : decode cL_law 420 = .ok (.aload_n 2, 1) := by decide +kernel
theorem dL_law_421 : decode cL_law 421 = .ok (.aload 4, 2) := by decide +kernel
theorem dL_law_423 : decode cL_law 423 = .ok (.invokestatic 153, 3) := by decide +kernel
theorem dL_law_426 : decode cL_law 426 = .ok (.iastore, 1) := by decide +kernel
theorem dL_law_427 : decode cL_law 427 = .ok (.aload_n 1, 1) := by decide +kernel
theorem dL_law_428 : decode cL_law 428 = .ok (.iload 14, 2) := by decide +kernel
theorem dL_law_430 : decode cL_law 430 = .ok (.invokevirtual 66, 3) := by decide +kernel
theorem dL_law_433 : decode cL_law 433 = .ok (.istore 18, 2) := by decide +kernel
theorem dL_law_435 : decode cL_law 435 = .ok (.iload 18, 2) := by decide +kernel
theorem dL_law_437 : decode cL_law 437 = .ok (.iload 14, 2) := by decide +kernel
theorem dL_law_439 : decode cL_law 439 = .ok (.aload 4, 2) := by decide +kernel
theorem dL_law_441 : decode cL_law 441 = .ok (.aload 5, 2) := by decide +kernel
theorem dL_law_443 : decode cL_law 443 = .ok (.invokestatic 118, 3) := by decide +kernel
theorem dL_law_446 : decode cL_law 446 = .ok (.if_icmp .eq 109, 3) := by decide +kernel
theorem dL_law_449 : decode cL_law 449 = .ok (.iconst 0, 1) := by decide +kernel
theorem dL_law_450 : decode cL_law 450 = .ok (.ireturn, 1) := by decide +kernel
theorem dL_law_451 : decode cL_law 451 = .ok (.aload_n 1, 1) := by decide +kernel
theorem dL_law_452 : decode cL_law 452 = .ok (.iload 13, 2) := by decide +kernel
theorem dL_law_454 : decode cL_law 454 = .ok (.iload 14, 2) := by decide +kernel
theorem dL_law_456 : decode cL_law 456 = .ok (.iload 15, 2) := by decide +kernel
theorem dL_law_458 : decode cL_law 458 = .ok (.invokestatic 157, 3) := by decide +kernel
theorem dL_law_461 : decode cL_law 461 = .ok (.istore 18, 2) := by decide +kernel
theorem dL_law_463 : decode cL_law 463 = .ok (.iload 18, 2) := by decide +kernel
theorem dL_law_465 : decode cL_law 465 = .ok (.ifCond .ge 16, 3) := by decide +kernel
theorem dL_law_468 : decode cL_law 468 = .ok (.aload_n 1, 1) := by decide +kernel
theorem dL_law_469 : decode cL_law 469 = .ok (.invokestatic 149, 3) := by decide +kernel
theorem dL_law_472 : decode cL_law 472 = .ok (.lload 16, 2) := by decide +kernel
theorem dL_law_474 : decode cL_law 474 = .ok (.lcmp, 1) := by decide +kernel
theorem dL_law_475 : decode cL_law 475 = .ok (.ifCond .eq 50, 3) := by decide +kernel
theorem dL_law_478 : decode cL_law 478 = .ok (.goto 45, 3) := by decide +kernel
theorem dL_law_481 : decode cL_law 481 = .ok (.iload 11, 2) := by decide +kernel
theorem dL_law_483 : decode cL_law 483 = .ok (.bipush 24, 2) := by decide +kernel
theorem dL_law_485 : decode cL_law 485 = .ok (.ishr, 1) := by decide +kernel
theorem dL_law_486 : decode cL_law 486 = .ok (.iconst 3, 1) := by decide +kernel
theorem dL_law_487 : decode cL_law 487 = .ok (.iand, 1) := by decide +kernel
theorem dL_law_488 : decode cL_law 488 = .ok (.ifCond .ne 37, 3) := by decide +kernel
theorem dL_law_491 : decode cL_law 491 = .ok (.aload_n 1, 1) := by decide +kernel
theorem dL_law_492 : decode cL_law 492 = .ok (.invokevirtual 161, 3) := by decide +kernel
theorem dL_law_495 : decode cL_law 495 = .ok (.ifCond .lt 28, 3) := by decide +kernel
theorem dL_law_498 : decode cL_law 498 = .ok (.aload_n 1, 1) := by decide +kernel
theorem dL_law_499 : decode cL_law 499 = .ok (.invokestatic 149, 3) := by decide +kernel
theorem dL_law_502 : decode cL_law 502 = .ok (.lload 16, 2) := by decide +kernel
theorem dL_law_504 : decode cL_law 504 = .ok (.lcmp, 1) := by decide +kernel
theorem dL_law_505 : decode cL_law 505 = .ok (.ifCond .ne 18, 3) := by decide +kernel
theorem dL_law_508 : decode cL_law 508 = .ok (.aload_n 1, 1) := by decide +kernel
theorem dL_law_509 : decode cL_law 509 = .ok (.iload 13, 2) := by decide +kernel
theorem dL_law_511 : decode cL_law 511 = .ok (.iload 14, 2) := by decide +kernel
theorem dL_law_513 : decode cL_law 513 = .ok (.iload 15, 2) := by decide +kernel
theorem dL_law_515 : decode cL_law 515 = .ok (.invokestatic 157, 3) := by decide +kernel
theorem dL_law_518 : decode cL_law 518 = .ok (.iload 18, 2) := by decide +kernel
theorem dL_law_520 : decode cL_law 520 = .ok (.if_icmp .eq 5, 3) := by decide +kernel
theorem dL_law_523 : decode cL_law 523 = .ok (.iconst 0, 1) := by decide +kernel
theorem dL_law_524 : decode cL_law 524 = .ok (.ireturn, 1) := by decide +kernel
theorem dL_law_525 : decode cL_law 525 = .ok (.iload 18, 2) := by decide +kernel
theorem dL_law_527 : decode cL_law 527 = .ok (.iload 13, 2) := by decide +kernel
theorem dL_law_529 : decode cL_law 529 = .ok (.iload 14, 2) := by decide +kernel
theorem dL_law_531 : decode cL_law 531 = .ok (.iload 15, 2) := by decide +kernel
theorem dL_law_533 : decode cL_law 533 = .ok (.aload_n 2, 1) := by decide +kernel
theorem dL_law_534 : decode cL_law 534 = .ok (.aload_n 3, 1) := by decide +kernel
theorem dL_law_535 : decode cL_law 535 = .ok (.aload 4, 2) := by decide +kernel
theorem dL_law_537 : decode cL_law 537 = .ok (.aload 5, 2) := by decide +kernel
theorem dL_law_539 : decode cL_law 539 = .ok (.aload 6, 2) := by decide +kernel
theorem dL_law_541 : decode cL_law 541 = .ok (.aload 7, 2) := by decide +kernel
theorem dL_law_543 : decode cL_law 543 = .ok (.aload 8, 2) := by decide +kernel
theorem dL_law_545 : decode cL_law 545 = .ok (.aload 9, 2) := by decide +kernel
theorem dL_law_547 : decode cL_law 547 = .ok (.invokestatic 164, 3) := by decide +kernel
theorem dL_law_550 : decode cL_law 550 = .ok (.if_icmp .eq 5, 3) := by decide +kernel
theorem dL_law_553 : decode cL_law 553 = .ok (.iconst 0, 1) := by decide +kernel
theorem dL_law_554 : decode cL_law 554 = .ok (.ireturn, 1) := by decide +kernel
theorem dL_law_555 : decode cL_law 555 = .ok (.aload_n 1, 1) := by decide +kernel
theorem dL_law_556 : decode cL_law 556 = .ok (.iload 11, 2) := by decide +kernel
theorem dL_law_558 : decode cL_law 558 = .ok (.iconst 5, 1) := by decide +kernel
theorem dL_law_559 : decode cL_law 559 = .ok (.ishr, 1) := by decide +kernel
theorem dL_law_560 : decode cL_law 560 = .ok (.aload_n 2, 1) := by decide +kernel
theorem dL_law_561 : decode cL_law 561 = .ok (.aload_n 3, 1) := by decide +kernel
theorem dL_law_562 : decode cL_law 562 = .ok (.aload 4, 2) := by decide +kernel
theorem dL_law_564 : decode cL_law 564 = .ok (.aload 5, 2) := by decide +kernel
theorem dL_law_566 : decode cL_law 566 = .ok (.aload 6, 2) := by decide +kernel
theorem dL_law_568 : decode cL_law 568 = .ok (.aload 9, 2) := by decide +kernel
theorem dL_law_570 : decode cL_law 570 = .ok (.invokestatic 168, 3) := by decide +kernel
theorem dL_law_573 : decode cL_law 573 = .ok (.ifCond .ne 5, 3) := by decide +kernel
theorem dL_law_576 : decode cL_law 576 = .ok (.iconst 0, 1) := by decide +kernel
theorem dL_law_577 : decode cL_law 577 = .ok (.ireturn, 1) := by decide +kernel
theorem dL_law_578 : decode cL_law 578 = .ok (.iinc 10 1, 3) := by decide +kernel
theorem dL_law_581 : decode cL_law 581 = .ok (.goto (-488), 3) := by decide +kernel
theorem dL_law_584 : decode cL_law 584 = .ok (.iconst 1, 1) := by decide +kernel
theorem dL_law_585 : decode cL_law 585 = .ok (.ireturn, 1) := by decide +kernel
