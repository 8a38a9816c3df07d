theorem dX10_act_146 : decode cX10_act 146 = .ok (.iconst (-1), 1) := by decide +kernel
theorem dX10_act_147 : decode cX10_act 147 = .ok (.if_icmp .ne 32, 3) := by decide +kernel
theorem dX10_act_150 : decode cX10_act 150 = .ok (.iload 5, 2) := by decide +kernel
theorem dX10_act_152 : decode cX10_act 152 = .ok (.bipush 48, 2) := by decide +kernel
theorem dX10_act_154 : decode cX10_act 154 = .ok (.bipush 57, 2) := by decide +kernel
theorem dX10_act_156 : decode cX10_act 156 = .ok (.invokestatic 117, 3) := by decide +kernel
theorem dX10_act_159 : decode cX10_act 159 = .ok (.ifCond .ne 20, 3) := by decide +kernel
theorem dX10_act_162 : decode cX10_act 162 = .ok (.iload 5, 2) := by decide +kernel
theorem dX10_act_164 : decode cX10_act 164 = .ok (.invokestatic 138, 3) := by decide +kernel
theorem dX10_act_167 : decode cX10_act 167 = .ok (.iconst (-1), 1) := by decide +kernel
theorem dX10_act_168 : decode cX10_act 168 = .ok (.if_icmp .ne 11, 3) := by decide +kernel
theorem dX10_act_171 : decode cX10_act 171 = .ok (.aload_n 0, 1) := by decide +kernel
theorem dX10_act_172 : decode cX10_act 172 = .ok (.aload_n 0, 1) := by decide +kernel
theorem dX10_act_173 : decode cX10_act 173 = .ok (.getfield 125, 3) := by decide +kernel
theorem dX10_act_176 : decode cX10_act 176 = .ok (.putfield 135, 3) := by decide +kernel
theorem dX10_act_179 : decode cX10_act 179 = .ok (.iload 5, 2) := by decide +kernel
theorem dX10_act_181 : decode cX10_act 181 = .ok (.bipush 48, 2) := by decide +kernel
theorem dX10_act_183 : decode cX10_act 183 = .ok (.bipush 57, 2) := by decide +kernel
theorem dX10_act_185 : decode cX10_act 185 = .ok (.invokestatic 117, 3) := by decide +kernel
theorem dX10_act_188 : decode cX10_act 188 = .ok (.ifCond .eq 11, 3) := by decide +kernel
theorem dX10_act_191 : decode cX10_act 191 = .ok (.iload 5, 2) := by decide +kernel
theorem dX10_act_193 : decode cX10_act 193 = .ok (.bipush 48, 2) := by decide +kernel
theorem dX10_act_195 : decode cX10_act 195 = .ok (.isub, 1) := by decide +kernel
theorem dX10_act_196 : decode cX10_act 196 = .ok (.goto 11, 3) := by decide +kernel
theorem dX10_act_199 : decode cX10_act 199 = .ok (.bipush 10, 2) := by decide +kernel
theorem dX10_act_201 : decode cX10_act 201 = .ok (.iload 5, 2) := by decide +kernel
theorem dX10_act_203 : decode cX10_act 203 = .ok (.invokestatic 138, 3) := by decide +kernel
theorem dX10_act_206 : decode cX10_act 206 = .ok (.iadd, 1) := by decide +kernel
theorem dX10_act_207 : decode cX10_act 207 = .ok (.istore_n 3, 1) := by decide +kernel
theorem dX10_act_208 : decode cX10_act 208 = .ok (.aload_n 0, 1) := by decide +kernel
theorem dX10_act_209 : decode cX10_act 209 = .ok (.dup, 1) := by decide +kernel
theorem dX10_act_210 : decode cX10_act 210 = .ok (.getfield 125, 3) := by decide +kernel
theorem dX10_act_213 : decode cX10_act 213 = .ok (.iconst 1, 1) := by decide +kernel
theorem dX10_act_214 : decode cX10_act 214 = .ok (.iadd, 1) := by decide +kernel
theorem dX10_act_215 : decode cX10_act 215 = .ok (.putfield 125, 3) := by decide +kernel
theorem dX10_act_218 : decode cX10_act 218 = .ok (.bipush 60, 2) := by decide +kernel
theorem dX10_act_220 : decode cX10_act 220 = .ok (.aload_n 0, 1) := by decide +kernel
theorem dX10_act_221 : decode cX10_act 221 = .ok (.getfield 128, 3) := by decide +kernel
theorem dX10_act_224 : decode cX10_act 224 = .ok (.imul, 1) := by decide +kernel
theorem dX10_act_225 : decode cX10_act 225 = .ok (.aload_n 0, 1) := by decide +kernel
theorem dX10_act_226 : decode cX10_act 226 = .ok (.getfield 145, 3) := by decide +kernel
theorem dX10_act_229 : decode cX10_act 229 = .ok (.bipush 59, 2) := by decide +kernel
theorem dX10_act_231 : decode cX10_act 231 = .ok (.if_icmp .ge 10, 3) := by decide +kernel
theorem dX10_act_234 : decode cX10_act 234 = .ok (.aload_n 0, 1) := by decide +kernel
theorem dX10_act_235 : decode cX10_act 235 = .ok (.getfield 145, 3) := by decide +kernel
theorem dX10_act_238 : decode cX10_act 238 = .ok (.goto 5, 3) := by decide +kernel
theorem dX10_act_241 : decode cX10_act 241 = .ok (.bipush 59, 2) := by decide +kernel
theorem dX10_act_243 : decode cX10_act 243 = .ok (.iadd, 1) := by decide +kernel
theorem dX10_act_244 : decode cX10_act 244 = .ok (.istore 4, 2) := by decide +kernel
theorem dX10_act_246 : decode cX10_act 246 = .ok (.aload_n 0, 1) := by decide +kernel
theorem dX10_act_247 : decode cX10_act 247 = .ok (.getfield 29, 3) := by decide +kernel
theorem dX10_act_250 : decode cX10_act 250 = .ok (.iload 4, 2) := by decide +kernel
theorem dX10_act_252 : decode cX10_act 252 = .ok (.iload_n 1, 1) := by decide +kernel
theorem dX10_act_253 : decode cX10_act 253 = .ok (.iastore, 1) := by decide +kernel
theorem dX10_act_254 : decode cX10_act 254 = .ok (.aload_n 0, 1) := by decide +kernel
theorem dX10_act_255 : decode cX10_act 255 = .ok (.getfield 32, 3) := by decide +kernel
theorem dX10_act_258 : decode cX10_act 258 = .ok (.iload 4, 2) := by decide +kernel
theorem dX10_act_260 : decode cX10_act 260 = .ok (.iload_n 2, 1) := by decide +kernel
theorem dX10_act_261 : decode cX10_act 261 = .ok (.iastore, 1) := by decide +kernel
theorem dX10_act_262 : decode cX10_act 262 = .ok (.aload_n 0, 1) := by decide +kernel
theorem dX10_act_263 : decode cX10_act 263 = .ok (.getfield 35, 3) := by decide +kernel
theorem dX10_act_266 : decode cX10_act 266 = .ok (.iload 4, 2) := by decide +kernel
theorem dX10_act_268 : decode cX10_act 268 = .ok (.iload_n 3, 1) := by decide +kernel
theorem dX10_act_269 : decode cX10_act 269 = .ok (.iastore, 1) := by decide +kernel
theorem dX10_act_270 : decode cX10_act 270 = .ok (.aload_n 0, 1) := by decide +kernel
theorem dX10_act_271 : decode cX10_act 271 = .ok (.dup, 1) := by decide +kernel
theorem dX10_act_272 : decode cX10_act 272 = .ok (.getfield 145, 3) := by decide +kernel
theorem dX10_act_275 : decode cX10_act 275 = .ok (.iconst 1, 1) := by decide +kernel
theorem dX10_act_276 : decode cX10_act 276 = .ok (.iadd, 1) := by decide +kernel
theorem dX10_act_277 : decode cX10_act 277 = .ok (.putfield 145, 3) := by decide +kernel
theorem dX10_act_280 : decode cX10_act 280 = .ok (.return_, 1) := by decide +kernel
theorem dX10_part_0 : decode cX10_part 0 = .ok (.aload_n 0, 1) := by decide +kernel
theorem dX10_part_1 : decode cX10_part 1 = .ok (.invokevirtual 131, 3) := by decide +kernel
theorem dX10_part_4 : decode cX10_part 4 = .ok (.invokestatic 148, 3) := by decide +kernel
theorem dX10_part_7 : decode cX10_part 7 = .ok (.istore_n 1, 1) := by decide +kernel
theorem dX10_part_8 : decode cX10_part 8 = .ok (.iload_n 1, 1) := by decide +kernel
theorem dX10_part_9 : decode cX10_part 9 = .ok (.iconst (-1), 1) := by decide +kernel
theorem dX10_part_10 : decode cX10_part 10 = .ok (.if_icmp .ne 12, 3) := by decide +kernel
theorem dX10_part_13 : decode cX10_part 13 = .ok (.aload_n 0, 1) := by decide +kernel
theorem dX10_part_14 : decode cX10_part 14 = .ok (.aload_n 0, 1) := by decide +kernel
theorem dX10_part_15 : decode cX10_part 15 = .ok (.getfield 125, 3) := by decide +kernel
theorem dX10_part_18 : decode cX10_part 18 = .ok (.putfield 135, 3) := by decide +kernel
theorem dX10_part_21 : decode cX10_part 21 = .ok (.return_, 1) := by decide +kernel
theorem dX10_part_22 : decode cX10_part 22 = .ok (.aload_n 0, 1) := by decide +kernel
theorem dX10_part_23 : decode cX10_part 23 = .ok (.dup, 1) := by decide +kernel
theorem dX10_part_24 : decode cX10_part 24 = .ok (.getfield 125, 3) := by decide +kernel
theorem dX10_part_27 : decode cX10_part 27 = .ok (.iconst 1, 1) := by decide +kernel
theorem dX10_part_28 : decode cX10_part 28 = .ok (.iadd, 1) := by decide +kernel
theorem dX10_part_29 : decode cX10_part 29 = .ok (.putfield 125, 3) := by decide +kernel
theorem dX10_part_32 : decode cX10_part 32 = .ok (.aload_n 0, 1) := by decide +kernel
theorem dX10_part_33 : decode cX10_part 33 = .ok (.invokevirtual 142, 3) := by decide +kernel
theorem dX10_part_36 : decode cX10_part 36 = .ok (.istore_n 2, 1) := by decide +kernel
theorem dX10_part_37 : decode cX10_part 37 = .ok (.aload_n 0, 1) := by decide +kernel
theorem dX10_part_38 : decode cX10_part 38 = .ok (.getfield 135, 3) := by decide +kernel
theorem dX10_part_41 : decode cX10_part 41 = .ok (.iconst (-1), 1) := by decide +kernel
theorem dX10_part_42 : decode cX10_part 42 = .ok (.if_icmp .ne 20, 3) := by decide +kernel
theorem dX10_part_45 : decode cX10_part 45 = .ok (.aload_n 0, 1) := by decide +kernel
theorem dX10_part_46 : decode cX10_part 46 = .ok (.invokevirtual 131, 3) := by decide +kernel
theorem dX10_part_49 : decode cX10_part 49 = .ok (.bipush 58, 2) := by decide +kernel
theorem dX10_part_51 : decode cX10_part 51 = .ok (.if_icmp .eq 11, 3) := by decide +kernel
theorem dX10_part_54 : decode cX10_part 54 = .ok (.aload_n 0, 1) := by decide +kernel
theorem dX10_part_55 : decode cX10_part 55 = .ok (.aload_n 0, 1) := by decide +kernel
theorem dX10_part_56 : decode cX10_part 56 = .ok (.getfield 125, 3) := by decide +kernel
theorem dX10_part_59 : decode cX10_part 59 = .ok (.putfield 135, 3) := by decide +kernel
theorem dX10_part_62 : decode cX10_part 62 = .ok (.aload_n 0, 1) := by decide +kernel
theorem dX10_part_63 : decode cX10_part 63 = .ok (.dup, 1) := by decide +kernel
theorem dX10_part_64 : decode cX10_part 64 = .ok (.getfield 125, 3) := by decide +kernel
theorem dX10_part_67 : decode cX10_part 67 = .ok (.iconst 1, 1) := by decide +kernel
theorem dX10_part_68 : decode cX10_part 68 = .ok (.iadd, 1) := by decide +kernel
theorem dX10_part_69 : decode cX10_part 69 = .ok (.putfield 125, 3) := by decide +kernel
theorem dX10_part_72 : decode cX10_part 72 = .ok (.aload_n 0, 1) := by decide +kernel
theorem dX10_part_73 : decode cX10_part 73 = .ok (.getfield 145, 3) := by decide +kernel
theorem dX10_part_76 : decode cX10_part 76 = .ok (.istore_n 3, 1) := by decide +kernel
theorem dX10_part_77 : decode cX10_part 77 = .ok (.aload_n 0, 1) := by decide +kernel
theorem dX10_part_78 : decode cX10_part 78 = .ok (.getfield 135, 3) := by decide +kernel
theorem dX10_part_81 : decode cX10_part 81 = .ok (.iconst (-1), 1) := by decide +kernel
theorem dX10_part_82 : decode cX10_part 82 = .ok (.if_icmp .ne 7, 3) := by decide +kernel
theorem dX10_part_85 : decode cX10_part 85 = .ok (.iconst 1, 1) := by decide +kernel
theorem dX10_part_86 : decode cX10_part 86 = .ok (.goto 4, 3) := by decide +kernel
theorem dX10_part_89 : decode cX10_part 89 = .ok (.iconst 0, 1) := by decide +kernel
theorem dX10_part_90 : decode cX10_part 90 = .ok (.istore 4, 2) := by decide +kernel
theorem dX10_part_92 : decode cX10_part 92 = .ok (.iload 4, 2) := by decide +kernel
theorem dX10_part_94 : decode cX10_part 94 = .ok (.ifCond .eq 53, 3) := by decide +kernel
theorem dX10_part_97 : decode cX10_part 97 = .ok (.aload_n 0, 1) := by decide +kernel
theorem dX10_part_98 : decode cX10_part 98 = .ok (.invokevirtual 151, 3) := by decide +kernel
theorem dX10_part_101 : decode cX10_part 101 = .ok (.aload_n 0, 1) := by decide +kernel
theorem dX10_part_102 : decode cX10_part 102 = .ok (.getfield 135, 3) := by decide +kernel
theorem dX10_part_105 : decode cX10_part 105 = .ok (.iconst (-1), 1) := by decide +kernel
theorem dX10_part_106 : decode cX10_part 106 = .ok (.if_icmp .ne 16, 3) := by decide +kernel
theorem dX10_part_109 : decode cX10_part 109 = .ok (.aload_n 0, 1) := by decide +kernel
theorem dX10_part_110 : decode cX10_part 110 = .ok (.invokevirtual 131, 3) := by decide +kernel
theorem dX10_part_113 : decode cX10_part 113 = .ok (.bipush 44, 2) := by decide +kernel
theorem dX10_part_115 : decode cX10_part 115 = .ok (.if_icmp .ne 7, 3) := by decide +kernel
theorem dX10_part_118 : decode cX10_part 118 = .ok (.iconst 1, 1) := by decide +kernel
theorem dX10_part_119 : decode cX10_part 119 = .ok (.goto 4, 3) := by decide +kernel
theorem dX10_part_122 : decode cX10_part 122 = .ok (.iconst 0, 1) := by decide +kernel
theorem dX10_part_123 : decode cX10_part 123 = .ok (.istore 4, 2) := by decide +kernel
theorem dX10_part_125 : decode cX10_part 125 = .ok (.aload_n 0, 1) := by decide +kernel
theorem dX10_part_126 : decode cX10_part 126 = .ok (.dup, 1) := by decide +kernel
theorem dX10_part_127 : decode cX10_part 127 = .ok (.getfield 125, 3) := by decide +kernel
theorem dX10_part_130 : decode cX10_part 130 = .ok (.iload 4, 2) := by decide +kernel
theorem dX10_part_132 : decode cX10_part 132 = .ok (.ifCond .eq 7, 3) := by decide +kernel
theorem dX10_part_135 : decode cX10_part 135 = .ok (.iconst 1, 1) := by decide +kernel
theorem dX10_part_136 : decode cX10_part 136 = .ok (.goto 4, 3) := by decide +kernel
theorem dX10_part_139 : decode cX10_part 139 = .ok (.iconst 0, 1) := by decide +kernel
theorem dX10_part_140 : decode cX10_part 140 = .ok (.iadd, 1) := by decide +kernel
theorem dX10_part_141 : decode cX10_part 141 = .ok (.putfield 125, 3) := by decide +kernel
theorem dX10_part_144 : decode cX10_part 144 = .ok (.goto (-52), 3) := by decide +kernel
theorem dX10_part_147 : decode cX10_part 147 = .ok (.aload_n 0, 1) := by decide +kernel
theorem dX10_part_148 : decode cX10_part 148 = .ok (.getfield 135, 3) := by decide +kernel
theorem dX10_part_151 : decode cX10_part 151 = .ok (.iconst (-1), 1) := by decide +kernel
theorem dX10_part_152 : decode cX10_part 152 = .ok (.if_icmp .ne 46, 3) := by decide +kernel
theorem dX10_part_155 : decode cX10_part 155 = .ok (.aload_n 0, 1) := by decide +kernel
theorem dX10_part_156 : decode cX10_part 156 = .ok (.getfield 23, 3) := by decide +kernel
theorem dX10_part_159 : decode cX10_part 159 = .ok (.bipush 16, 2) := by decide +kernel
theorem dX10_part_161 : decode cX10_part 161 = .ok (.aload_n 0, 1) := by decide +kernel
theorem dX10_part_162 : decode cX10_part 162 = .ok (.getfield 128, 3) := by decide +kernel
theorem dX10_part_165 : decode cX10_part 165 = .ok (.imul, 1) := by decide +kernel
theorem dX10_part_166 : decode cX10_part 166 = .ok (.iconst 2, 1) := by decide +kernel
theorem dX10_part_167 : decode cX10_part 167 = .ok (.iload_n 1, 1) := by decide +kernel
theorem dX10_part_168 : decode cX10_part 168 = .ok (.imul, 1) := by decide +kernel
theorem dX10_part_169 : decode cX10_part 169 = .ok (.iadd, 1) := by decide +kernel
theorem dX10_part_170 : decode cX10_part 170 = .ok (.iload_n 2, 1) := by decide +kernel
theorem dX10_part_171 : decode cX10_part 171 = .ok (.iadd, 1) := by decide +kernel
theorem dX10_part_172 : decode cX10_part 172 = .ok (.iload_n 3, 1) := by decide +kernel
theorem dX10_part_173 : decode cX10_part 173 = .ok (.iastore, 1) := by decide +kernel
theorem dX10_part_174 : decode cX10_part 174 = .ok (.aload_n 0, 1) := by decide +kernel
theorem dX10_part_175 : decode cX10_part 175 = .ok (.getfield 26, 3) := by decide +kernel
theorem dX10_part_178 : decode cX10_part 178 = .ok (.bipush 16, 2) := by decide +kernel
theorem dX10_part_180 : decode cX10_part 180 = .ok (.aload_n 0, 1) := by decide +kernel
theorem dX10_part_181 : decode cX10_part 181 = .ok (.getfield 128, 3) := by decide +kernel
theorem dX10_part_184 : decode cX10_part 184 = .ok (.imul, 1) := by decide +kernel
theorem dX10_part_185 : decode cX10_part 185 = .ok (.iconst 2, 1) := by decide +kernel
theorem dX10_part_186 : decode cX10_part 186 = .ok (.iload_n 1, 1) := by decide +kernel
theorem dX10_part_187 : decode cX10_part 187 = .ok (.imul, 1) := by decide +kernel
theorem dX10_part_188 : decode cX10_part 188 = .ok (.iadd, 1) := by decide +kernel
theorem dX10_part_189 : decode cX10_part 189 = .ok (.iload_n 2, 1) := by decide +kernel
theorem dX10_part_190 : decode cX10_part 190 = .ok (.iadd, 1) := by decide +kernel
theorem dX10_part_191 : decode cX10_part 191 = .ok (.aload_n 0, 1) := by decide +kernel
theorem dX10_part_192 : decode cX10_part 192 = .ok (.getfield 145, 3) := by decide +kernel
theorem dX10_part_195 : decode cX10_part 195 = .ok (.iload_n 3, 1) := by decide +kernel
theorem dX10_part_196 : decode cX10_part 196 = .ok (.isub, 1) := by decide +kernel
theorem dX10_part_197 : decode cX10_part 197 = .ok (.iastore, 1) := by decide +kernel
theorem dX10_part_198 : decode cX10_part 198 = .ok (.return_, 1) := by decide +kernel
theorem dX10_noLines_0 : decode cX10_noLines 0 = .ok (.iconst 0, 1) := by decide +kernel
theorem dX10_noLines_1 : decode cX10_noLines 1 = .ok (.istore_n 2, 1) := by decide +kernel
theorem dX10_noLines_2 : decode cX10_noLines 2 = .ok (.iload_n 2, 1) := by decide +kernel
theorem dX10_noLines_3 : decode cX10_noLines 3 = .ok (.bipush 16, 2) := by decide +kernel
theorem dX10_noLines_5 : decode cX10_noLines 5 = .ok (.if_icmp .ge 21, 3) := by decide +kernel
theorem dX10_noLines_8 : decode cX10_noLines 8 = .ok (.aload_n 0, 1) := by decide +kernel
theorem dX10_noLines_9 : decode cX10_noLines 9 = .ok (.getfield 26, 3) := by decide +kernel
theorem dX10_noLines_12 : decode cX10_noLines 12 = .ok (.bipush 16, 2) := by decide +kernel
theorem dX10_noLines_14 : decode cX10_noLines 14 = .ok (.iload_n 1, 1) := by decide +kernel
theorem dX10_noLines_15 : decode cX10_noLines 15 = .ok (.imul, 1) := by decide +kernel
theorem dX10_noLines_16 : decode cX10_noLines 16 = .ok (.iload_n 2, 1) := by decide +kernel
theorem dX10_noLines_17 : decode cX10_noLines 17 = .ok (.iadd, 1) := by decide +kernel
theorem dX10_noLines_18 : decode cX10_noLines 18 = .ok (.iconst 0, 1) := by decide +kernel
theorem dX10_noLines_19 : decode cX10_noLines 19 = .ok (.iastore, 1) := by decide +kernel
theorem dX10_noLines_20 : decode cX10_noLines 20 = .ok (.iinc 2 1, 3) := by decide +kernel
theorem dX10_noLines_23 : decode cX10_noLines 23 = .ok (.goto (-21), 3) := by decide +kernel
theorem dX10_noLines_26 : decode cX10_noLines 26 = .ok (.return_, 1) := by decide +kernel
theorem dX10_reads_0 : decode cX10_reads 0 = .ok (.aload_n 0, 1) := by decide +kernel
theorem dX10_reads_1 : decode cX10_reads 1 = .ok (.getfield 16, 3) := by decide +kernel
theorem dX10_reads_4 : decode cX10_reads 4 = .ok (.iload_n 1, 1) := by decide +kernel
theorem dX10_reads_5 : decode cX10_reads 5 = .ok (.baload, 1) := by decide +kernel
theorem dX10_reads_6 : decode cX10_reads 6 = .ok (.ifCond .eq 4, 3) := by decide +kernel
theorem dX10_reads_9 : decode cX10_reads 9 = .ok (.return_, 1) := by decide +kernel
theorem dX10_reads_10 : decode cX10_reads 10 = .ok (.aload_n 0, 1) := by decide +kernel
theorem dX10_reads_11 : decode cX10_reads 11 = .ok (.getfield 16, 3) := by decide +kernel
theorem dX10_reads_14 : decode cX10_reads 14 = .ok (.iload_n 1, 1) := by decide +kernel
theorem dX10_reads_15 : decode cX10_reads 15 = .ok (.iconst 1, 1) := by decide +kernel
theorem dX10_reads_16 : decode cX10_reads 16 = .ok (.bastore, 1) := by decide +kernel
theorem dX10_reads_17 : decode cX10_reads 17 = .ok (.aload_n 0, 1) := by decide +kernel
theorem dX10_reads_18 : decode cX10_reads 18 = .ok (.iload_n 1, 1) := by decide +kernel
theorem dX10_reads_19 : decode cX10_reads 19 = .ok (.putfield 128, 3) := by decide +kernel
theorem dX10_reads_22 : decode cX10_reads 22 = .ok (.aload_n 0, 1) := by decide +kernel
theorem dX10_reads_23 : decode cX10_reads 23 = .ok (.iconst 0, 1) := by decide +kernel
theorem dX10_reads_24 : decode cX10_reads 24 = .ok (.putfield 125, 3) := by decide +kernel
theorem dX10_reads_27 : decode cX10_reads 27 = .ok (.aload_n 0, 1) := by decide +kernel
theorem dX10_reads_28 : decode cX10_reads 28 = .ok (.iconst (-1), 1) := by decide +kernel
theorem dX10_reads_29 : decode cX10_reads 29 = .ok (.putfield 135, 3) := by decide +kernel
theorem dX10_reads_32 : decode cX10_reads 32 = .ok (.aload_n 0, 1) := by decide +kernel
theorem dX10_reads_33 : decode cX10_reads 33 = .ok (.iconst 0, 1) := by decide +kernel
theorem dX10_reads_34 : decode cX10_reads 34 = .ok (.putfield 145, 3) := by decide +kernel
theorem dX10_reads_37 : decode cX10_reads 37 = .ok (.aload_n 0, 1) := by decide +kernel
theorem dX10_reads_38 : decode cX10_reads 38 = .ok (.iload_n 1, 1) := by decide +kernel
theorem dX10_reads_39 : decode cX10_reads 39 = .ok (.invokevirtual 154, 3) := by decide +kernel
theorem dX10_reads_42 : decode cX10_reads 42 = .ok (.aload_n 0, 1) := by decide +kernel
theorem dX10_reads_43 : decode cX10_reads 43 = .ok (.getfield 7, 3) := by decide +kernel
theorem dX10_reads_46 : decode cX10_reads 46 = .ok (.iload_n 1, 1) := by decide +kernel
theorem dX10_reads_47 : decode cX10_reads 47 = .ok (.iaload, 1) := by decide +kernel
theorem dX10_reads_48 : decode cX10_reads 48 = .ok (.ifCond .le 7, 3) := by decide +kernel
theorem dX10_reads_51 : decode cX10_reads 51 = .ok (.iconst 1, 1) := by decide +kernel
theorem dX10_reads_52 : decode cX10_reads 52 = .ok (.goto 4, 3) := by decide +kernel
theorem dX10_reads_55 : decode cX10_reads 55 = .ok (.iconst 0, 1) := by decide +kernel
theorem dX10_reads_56 : decode cX10_reads 56 = .ok (.istore_n 2, 1) := by decide +kernel
theorem dX10_reads_57 : decode cX10_reads 57 = .ok (.iload_n 2, 1) := by decide +kernel
theorem dX10_reads_58 : decode cX10_reads 58 = .ok (.ifCond .eq 70, 3) := by decide +kernel
theorem dX10_reads_61 : decode cX10_reads 61 = .ok (.aload_n 0, 1) := by decide +kernel
theorem dX10_reads_62 : decode cX10_reads 62 = .ok (.invokevirtual 158, 3) := by decide +kernel
theorem dX10_reads_65 : decode cX10_reads 65 = .ok (.aload_n 0, 1) := by decide +kernel
theorem dX10_reads_66 : decode cX10_reads 66 = .ok (.getfield 135, 3) := by decide +kernel
theorem dX10_reads_69 : decode cX10_reads 69 = .ok (.iconst (-1), 1) := by decide +kernel
theorem dX10_reads_70 : decode cX10_reads 70 = .ok (.if_icmp .ne 20, 3) := by decide +kernel
theorem dX10_reads_73 : decode cX10_reads 73 = .ok (.aload_n 0, 1) := by decide +kernel
theorem dX10_reads_74 : decode cX10_reads 74 = .ok (.getfield 125, 3) := by decide +kernel
theorem dX10_reads_77 : decode cX10_reads 77 = .ok (.aload_n 0, 1) := by decide +kernel
theorem dX10_reads_78 : decode cX10_reads 78 = .ok (.getfield 7, 3) := by decide +kernel
theorem dX10_reads_81 : decode cX10_reads 81 = .ok (.iload_n 1, 1) := by decide +kernel
theorem dX10_reads_82 : decode cX10_reads 82 = .ok (.iaload, 1) := by decide +kernel
theorem dX10_reads_83 : decode cX10_reads 83 = .ok (.if_icmp .ge 7, 3) := by decide +kernel
theorem dX10_reads_86 : decode cX10_reads 86 = .ok (.iconst 1, 1) := by decide +kernel
theorem dX10_reads_87 : decode cX10_reads 87 = .ok (.goto 4, 3) := by decide +kernel
theorem dX10_reads_90 : decode cX10_reads 90 = .ok (.iconst 0, 1) := by decide +kernel
theorem dX10_reads_91 : decode cX10_reads 91 = .ok (.istore_n 2, 1) := by decide +kernel
theorem dX10_reads_92 : decode cX10_reads 92 = .ok (.iload_n 2, 1) := by decide +kernel
theorem dX10_reads_93 : decode cX10_reads 93 = .ok (.ifCond .eq 22, 3) := by decide +kernel
theorem dX10_reads_96 : decode cX10_reads 96 = .ok (.aload_n 0, 1) := by decide +kernel
theorem dX10_reads_97 : decode cX10_reads 97 = .ok (.invokevirtual 131, 3) := by decide +kernel
theorem dX10_reads_100 : decode cX10_reads 100 = .ok (.bipush 59, 2) := by decide +kernel
theorem dX10_reads_102 : decode cX10_reads 102 = .ok (.if_icmp .eq 13, 3) := by decide +kernel
theorem dX10_reads_105 : decode cX10_reads 105 = .ok (.aload_n 0, 1) := by decide +kernel
theorem dX10_reads_106 : decode cX10_reads 106 = .ok (.aload_n 0, 1) := by decide +kernel
theorem dX10_reads_107 : decode cX10_reads 107 = .ok (.getfield 125, 3) := by decide +kernel
theorem dX10_reads_110 : decode cX10_reads 110 = .ok (.putfield 135, 3) := by decide +kernel
theorem dX10_reads_113 : decode cX10_reads 113 = .ok (.iconst 0, 1) := by decide +kernel
theorem dX10_reads_114 : decode cX10_reads 114 = .ok (.istore_n 2, 1) := by decide +kernel
theorem dX10_reads_115 : decode cX10_reads 115 = .ok (.aload_n 0, 1) := by decide +kernel
theorem dX10_reads_116 : decode cX10_reads 116 = .ok (.dup, 1) := by decide +kernel
theorem dX10_reads_117 : decode cX10_reads 117 = .ok (.getfield 125, 3) := by decide +kernel
theorem dX10_reads_120 : decode cX10_reads 120 = .ok (.iconst 1, 1) := by decide +kernel
theorem dX10_reads_121 : decode cX10_reads 121 = .ok (.iadd, 1) := by decide +kernel
theorem dX10_reads_122 : decode cX10_reads 122 = .ok (.putfield 125, 3) := by decide +kernel
theorem dX10_reads_125 : decode cX10_reads 125 = .ok (.goto (-68), 3) := by decide +kernel
theorem dX10_reads_128 : decode cX10_reads 128 = .ok (.aload_n 0, 1) := by decide +kernel
theorem dX10_reads_129 : decode cX10_reads 129 = .ok (.getfield 20, 3) := by decide +kernel
theorem dX10_reads_132 : decode cX10_reads 132 = .ok (.iload_n 1, 1) := by decide +kernel
theorem dX10_reads_133 : decode cX10_reads 133 = .ok (.aload_n 0, 1) := by decide +kernel
theorem dX10_reads_134 : decode cX10_reads 134 = .ok (.getfield 135, 3) := by decide +kernel
theorem dX10_reads_137 : decode cX10_reads 137 = .ok (.iastore, 1) := by decide +kernel
theorem dX10_reads_138 : decode cX10_reads 138 = .ok (.aload_n 0, 1) := by decide +kernel
theorem dX10_reads_139 : decode cX10_reads 139 = .ok (.getfield 135, 3) := by decide +kernel
theorem dX10_reads_142 : decode cX10_reads 142 = .ok (.iconst (-1), 1) := by decide +kernel
theorem dX10_reads_143 : decode cX10_reads 143 = .ok (.if_icmp .eq 8, 3) := by decide +kernel
theorem dX10_reads_146 : decode cX10_reads 146 = .ok (.aload_n 0, 1) := by decide +kernel
theorem dX10_reads_147 : decode cX10_reads 147 = .ok (.iload_n 1, 1) := by decide +kernel
theorem dX10_reads_148 : decode cX10_reads 148 = .ok (.invokevirtual 154, 3) := by decide +kernel
theorem dX10_reads_151 : decode cX10_reads 151 = .ok (.return_, 1) := by decide +kernel
theorem dX10_faultOf_0 : decode cX10_faultOf 0 = .ok (.aload_n 0, 1) := by decide +kernel
theorem dX10_faultOf_1 : decode cX10_faultOf 1 = .ok (.iload_n 1, 1) := by decide +kernel
theorem dX10_faultOf_2 : decode cX10_faultOf 2 = .ok (.invokevirtual 161, 3) := by decide +kernel
theorem dX10_faultOf_5 : decode cX10_faultOf 5 = .ok (.aload_n 0, 1) := by decide +kernel
theorem dX10_faultOf_6 : decode cX10_faultOf 6 = .ok (.getfield 20, 3) := by decide +kernel
theorem dX10_faultOf_9 : decode cX10_faultOf 9 = .ok (.iload_n 1, 1) := by decide +kernel
theorem dX10_faultOf_10 : decode cX10_faultOf 10 = .ok (.iaload, 1) := by decide +kernel
theorem dX10_faultOf_11 : decode cX10_faultOf 11 = .ok (.ireturn, 1) := by decide +kernel
theorem dX10_fault_0 : decode cX10_fault 0 = .ok (.iload_n 1, 1) := by decide +kernel
theorem dX10_fault_1 : decode cX10_fault 1 = .ok (.invokestatic 121, 3) := by decide +kernel
theorem dX10_fault_4 : decode cX10_fault 4 = .ok (.ifCond .eq 11, 3) := by decide +kernel
theorem dX10_fault_7 : decode cX10_fault 7 = .ok (.aload_n 0, 1) := by decide +kernel
theorem dX10_fault_8 : decode cX10_fault 8 = .ok (.iload_n 1, 1) := by decide +kernel
theorem dX10_fault_9 : decode cX10_fault 9 = .ok (.invokevirtual 164, 3) := by decide +kernel
theorem dX10_fault_12 : decode cX10_fault 12 = .ok (.goto 5, 3) := by decide +kernel
theorem dX10_fault_15 : decode cX10_fault 15 = .ok (.bipush (-2), 2) := by decide +kernel
theorem dX10_fault_17 : decode cX10_fault 17 = .ok (.ireturn, 1) := by decide +kernel
theorem dX10_actsOf_0 : decode cX10_actsOf 0 = .ok (.aload_n 0, 1) := by decide +kernel
theorem dX10_actsOf_1 : decode cX10_actsOf 1 = .ok (.iload_n 1, 1) := by decide +kernel
theorem dX10_actsOf_2 : decode cX10_actsOf 2 = .ok (.invokevirtual 161, 3) := by decide +kernel
theorem dX10_actsOf_5 : decode cX10_actsOf 5 = .ok (.aload_n 0, 1) := by decide +kernel
theorem dX10_actsOf_6 : decode cX10_actsOf 6 = .ok (.getfield 26, 3) := by decide +kernel
theorem dX10_actsOf_9 : decode cX10_actsOf 9 = .ok (.bipush 16, 2) := by decide +kernel
theorem dX10_actsOf_11 : decode cX10_actsOf 11 = .ok (.iload_n 1, 1) := by decide +kernel
theorem dX10_actsOf_12 : decode cX10_actsOf 12 = .ok (.imul, 1) := by decide +kernel
theorem dX10_actsOf_13 : decode cX10_actsOf 13 = .ok (.iload_n 2, 1) := by decide +kernel
theorem dX10_actsOf_14 : decode cX10_actsOf 14 = .ok (.iadd, 1) := by decide +kernel
theorem dX10_actsOf_15 : decode cX10_actsOf 15 = .ok (.iaload, 1) := by decide +kernel
theorem dX10_actsOf_16 : decode cX10_actsOf 16 = .ok (.ireturn, 1) := by decide +kernel
theorem dX10_acts_0 : decode cX10_acts 0 = .ok (.iload_n 1, 1) := by decide +kernel
theorem dX10_acts_1 : decode cX10_acts 1 = .ok (.invokestatic 121, 3) := by decide +kernel
theorem dX10_acts_4 : decode cX10_acts 4 = .ok (.ifCond .eq 22, 3) := by decide +kernel
theorem dX10_acts_7 : decode cX10_acts 7 = .ok (.iload_n 2, 1) := by decide +kernel
theorem dX10_acts_8 : decode cX10_acts 8 = .ok (.iconst 0, 1) := by decide +kernel
theorem dX10_acts_9 : decode cX10_acts 9 = .ok (.bipush 15, 2) := by decide +kernel
theorem dX10_acts_11 : decode cX10_acts 11 = .ok (.invokestatic 117, 3) := by decide +kernel
theorem dX10_acts_14 : decode cX10_acts 14 = .ok (.ifCond .eq 12, 3) := by decide +kernel
theorem dX10_acts_17 : decode cX10_acts 17 = .ok (.aload_n 0, 1) := by decide +kernel
theorem dX10_acts_18 : decode cX10_acts 18 = .ok (.iload_n 1, 1) := by decide +kernel
theorem dX10_acts_19 : decode cX10_acts 19 = .ok (.iload_n 2, 1) := by decide +kernel
theorem dX10_acts_20 : decode cX10_acts 20 = .ok (.invokevirtual 167, 3) := by decide +kernel
theorem dX10_acts_23 : decode cX10_acts 23 = .ok (.goto 5, 3) := by decide +kernel
theorem dX10_acts_26 : decode cX10_acts 26 = .ok (.bipush (-2), 2) := by decide +kernel
theorem dX10_acts_28 : decode cX10_acts 28 = .ok (.ireturn, 1) := by decide +kernel
theorem dX10_areLike_0 : decode cX10_areLike 0 = .ok (.aload_n 0, 1) := by decide +kernel
theorem dX10_areLike_1 : decode cX10_areLike 1 = .ok (.iload_n 1, 1) := by decide +kernel
theorem dX10_areLike_2 : decode cX10_areLike 2 = .ok (.iload_n 3, 1) := by decide +kernel
theorem dX10_areLike_3 : decode cX10_areLike 3 = .ok (.invokevirtual 167, 3) := by decide +kernel
theorem dX10_areLike_6 : decode cX10_areLike 6 = .ok (.istore 4, 2) := by decide +kernel
theorem dX10_areLike_8 : decode cX10_areLike 8 = .ok (.aload_n 0, 1) := by decide +kernel
theorem dX10_areLike_9 : decode cX10_areLike 9 = .ok (.iload_n 2, 1) := by decide +kernel
theorem dX10_areLike_10 : decode cX10_areLike 10 = .ok (.iload_n 3, 1) := by decide +kernel
theorem dX10_areLike_11 : decode cX10_areLike 11 = .ok (.invokevirtual 167, 3) := by decide +kernel
theorem dX10_areLike_14 : decode cX10_areLike 14 = .ok (.iload 4, 2) := by decide +kernel
theorem dX10_areLike_16 : decode cX10_areLike 16 = .ok (.if_icmp .eq 5, 3) := by decide +kernel
theorem dX10_areLike_19 : decode cX10_areLike 19 = .ok (.iconst 0, 1) := by decide +kernel
theorem dX10_areLike_20 : decode cX10_areLike 20 = .ok (.ireturn, 1) := by decide +kernel
theorem dX10_areLike_21 : decode cX10_areLike 21 = .ok (.iconst 0, 1) := by decide +kernel
theorem dX10_areLike_22 : decode cX10_areLike 22 = .ok (.istore 5, 2) := by decide +kernel
theorem dX10_areLike_24 : decode cX10_areLike 24 = .ok (.iload 5, 2) := by decide +kernel
theorem dX10_areLike_26 : decode cX10_areLike 26 = .ok (.iload 4, 2) := by decide +kernel
theorem dX10_areLike_28 : decode cX10_areLike 28 = .ok (.if_icmp .ge 104, 3) := by decide +kernel
theorem dX10_areLike_31 : decode cX10_areLike 31 = .ok (.bipush 60, 2) := by decide +kernel
theorem dX10_areLike_33 : decode cX10_areLike 33 = .ok (.iload_n 1, 1) := by decide +kernel
theorem dX10_areLike_34 : decode cX10_areLike 34 = .ok (.imul, 1) := by decide +kernel
theorem dX10_areLike_35 : decode cX10_areLike 35 = .ok (.aload_n 0, 1) := by decide +kernel
theorem dX10_areLike_36 : decode cX10_areLike 36 = .ok (.getfield 23, 3) := by decide +kernel
theorem dX10_areLike_39 : decode cX10_areLike 39 = .ok (.bipush 16, 2) := by decide +kernel
theorem dX10_areLike_41 : decode cX10_areLike 41 = .ok (.iload_n 1, 1) := by decide +kernel
theorem dX10_areLike_42 : decode cX10_areLike 42 = .ok (.imul, 1) := by decide +kernel
theorem dX10_areLike_43 : decode cX10_areLike 43 = .ok (.iload_n 3, 1) := by decide +kernel
theorem dX10_areLike_44 : decode cX10_areLike 44 = .ok (.iadd, 1) := by decide +kernel
theorem dX10_areLike_45 : decode cX10_areLike 45 = .ok (.iaload, 1) := by decide +kernel
theorem dX10_areLike_46 : decode cX10_areLike 46 = .ok (.iadd, 1) := by decide +kernel
theorem dX10_areLike_47 : decode cX10_areLike 47 = .ok (.iload 5, 2) := by decide +kernel
theorem dX10_areLike_49 : decode cX10_areLike 49 = .ok (.iadd, 1) := by decide +kernel
theorem dX10_areLike_50 : decode cX10_areLike 50 = .ok (.istore 6, 2) := by decide +kernel
theorem dX10_areLike_52 : decode cX10_areLike 52 = .ok (.bipush 60, 2) := by decide +kernel
theorem dX10_areLike_54 : decode cX10_areLike 54 = .ok (.iload_n 2, 1) := by decide +kernel
theorem dX10_areLike_55 : decode cX10_areLike 55 = .ok (.imul, 1) := by decide +kernel
theorem dX10_areLike_56 : decode cX10_areLike 56 = .ok (.aload_n 0, 1) := by decide +kernel
theorem dX10_areLike_57 : decode cX10_areLike 57 = .ok (.getfield 23, 3) := by decide +kernel
theorem dX10_areLike_60 : decode cX10_areLike 60 = .ok (.bipush 16, 2) := by decide +kernel
theorem dX10_areLike_62 : decode cX10_areLike 62 = .ok (.iload_n 2, 1) := by decide +kernel
theorem dX10_areLike_63 : decode cX10_areLike 63 = .ok (.imul, 1) := by decide +kernel
theorem dX10_areLike_64 : decode cX10_areLike 64 = .ok (.iload_n 3, 1) := by decide +kernel
theorem dX10_areLike_65 : decode cX10_areLike 65 = .ok (.iadd, 1) := by decide +kernel
theorem dX10_areLike_66 : decode cX10_areLike 66 = .ok (.iaload, 1) := by decide +kernel
theorem dX10_areLike_67 : decode cX10_areLike 67 = .ok (.iadd, 1) := by decide +kernel
theorem dX10_areLike_68 : decode cX10_areLike 68 = .ok (.iload 5, 2) := by decide +kernel
theorem dX10_areLike_70 : decode cX10_areLike 70 = .ok (.iadd, 1) := by decide +kernel
theorem dX10_areLike_71 : decode cX10_areLike 71 = .ok (.istore 7, 2) := by decide +kernel
theorem dX10_areLike_73 : decode cX10_areLike 73 = .ok (.aload_n 0, 1) := by decide +kernel
theorem dX10_areLike_74 : decode cX10_areLike 74 = .ok (.getfield 29, 3) := by decide +kernel
theorem dX10_areLike_77 : decode cX10_areLike 77 = .ok (.iload 6, 2) := by decide +kernel
theorem dX10_areLike_79 : decode cX10_areLike 79 = .ok (.iaload, 1) := by decide +kernel
theorem dX10_areLike_80 : decode cX10_areLike 80 = .ok (.aload_n 0, 1) := by decide +kernel
theorem dX10_areLike_81 : decode cX10_areLike 81 = .ok (.getfield 29, 3) := by decide +kernel
theorem dX10_areLike_84 : decode cX10_areLike 84 = .ok (.iload 7, 2) := by decide +kernel
theorem dX10_areLike_86 : decode cX10_areLike 86 = .ok (.iaload, 1) := by decide +kernel
theorem dX10_areLike_87 : decode cX10_areLike 87 = .ok (.if_icmp .ne 37, 3) := by decide +kernel
theorem dX10_areLike_90 : decode cX10_areLike 90 = .ok (.aload_n 0, 1) := by decide +kernel
theorem dX10_areLike_91 : decode cX10_areLike 91 = .ok (.getfield 32, 3) := by decide +kernel
theorem dX10_areLike_94 : decode cX10_areLike 94 = .ok (.iload 6, 2) := by decide +kernel
theorem dX10_areLike_96 : decode cX10_areLike 96 = .ok (.iaload, 1) := by decide +kernel
theorem dX10_areLike_97 : decode cX10_areLike 97 = .ok (.aload_n 0, 1) := by decide +kernel
theorem dX10_areLike_98 : decode cX10_areLike 98 = .ok (.getfield 32, 3) := by decide +kernel
theorem dX10_areLike_101 : decode cX10_areLike 101 = .ok (.iload 7, 2) := by decide +kernel
theorem dX10_areLike_103 : decode cX10_areLike 103 = .ok (.iaload, 1) := by decide +kernel
theorem dX10_areLike_104 : decode cX10_areLike 104 = .ok (.if_icmp .ne 20, 3) := by decide +kernel
theorem dX10_areLike_107 : decode cX10_areLike 107 = .ok (.aload_n 0, 1) := by decide +kernel
theorem dX10_areLike_108 : decode cX10_areLike 108 = .ok (.getfield 35, 3) := by decide +kernel
theorem dX10_areLike_111 : decode cX10_areLike 111 = .ok (.iload 6, 2) := by decide +kernel
theorem dX10_areLike_113 : decode cX10_areLike 113 = .ok (.iaload, 1) := by decide +kernel
theorem dX10_areLike_114 : decode cX10_areLike 114 = .ok (.aload_n 0, 1) := by decide +kernel
theorem dX10_areLike_115 : decode cX10_areLike 115 = .ok (.getfield 35, 3) := by decide +kernel
theorem dX10_areLike_118 : decode cX10_areLike 118 = .ok (.iload 7, 2) := by decide +kernel
theorem dX10_areLike_120 : decode cX10_areLike 120 = .ok (.iaload, 1) := by decide +kernel
theorem dX10_areLike_121 : decode cX10_areLike 121 = .ok (.if_icmp .eq 5, 3) := by decide +kernel
theorem dX10_areLike_124 : decode cX10_areLike 124 = .ok (.iconst 0, 1) := by decide +kernel
theorem dX10_areLike_125 : decode cX10_areLike 125 = .ok (.ireturn, 1) := by decide +kernel
theorem dX10_areLike_126 : decode cX10_areLike 126 = .ok (.iinc 5 1, 3) := by decide +kernel
theorem dX10_areLike_129 : decode cX10_areLike 129 = .ok (.goto (-105), 3) := by decide +kernel
theorem dX10_areLike_132 : decode cX10_areLike 132 = .ok (.iconst 1, 1) := by decide +kernel
theorem dX10_areLike_133 : decode cX10_areLike 133 = .ok (.ireturn, 1) := by decide +kernel
theorem dX10_differOf_0 : decode cX10_differOf 0 = .ok (.iconst 0, 1) := by decide +kernel
theorem dX10_differOf_1 : decode cX10_differOf 1 = .ok (.istore_n 3, 1) := by decide +kernel
theorem dX10_differOf_2 : decode cX10_differOf 2 = .ok (.iconst 0, 1) := by decide +kernel
theorem dX10_differOf_3 : decode cX10_differOf 3 = .ok (.istore 4, 2) := by decide +kernel
theorem dX10_differOf_5 : decode cX10_differOf 5 = .ok (.iload 4, 2) := by decide +kernel
theorem dX10_differOf_7 : decode cX10_differOf 7 = .ok (.bipush 16, 2) := by decide +kernel
theorem dX10_differOf_9 : decode cX10_differOf 9 = .ok (.if_icmp .ge 31, 3) := by decide +kernel
theorem dX10_differOf_12 : decode cX10_differOf 12 = .ok (.iload_n 3, 1) := by decide +kernel
theorem dX10_differOf_13 : decode cX10_differOf 13 = .ok (.aload_n 0, 1) := by decide +kernel
theorem dX10_differOf_14 : decode cX10_differOf 14 = .ok (.iload_n 1, 1) := by decide +kernel
theorem dX10_differOf_15 : decode cX10_differOf 15 = .ok (.iload_n 2, 1) := by decide +kernel
theorem dX10_differOf_16 : decode cX10_differOf 16 = .ok (.iload 4, 2) := by decide +kernel
theorem dX10_differOf_18 : decode cX10_differOf 18 = .ok (.invokevirtual 171, 3) := by decide +kernel
theorem dX10_differOf_21 : decode cX10_differOf 21 = .ok (.ifCond .eq 7, 3) := by decide +kernel
theorem dX10_differOf_24 : decode cX10_differOf 24 = .ok (.iconst 0, 1) := by decide +kernel
theorem dX10_differOf_25 : decode cX10_differOf 25 = .ok (.goto 7, 3) := by decide +kernel
theorem dX10_differOf_28 : decode cX10_differOf 28 = .ok (.iconst 1, 1) := by decide +kernel
theorem dX10_differOf_29 : decode cX10_differOf 29 = .ok (.iload 4, 2) := by decide +kernel
theorem dX10_differOf_31 : decode cX10_differOf 31 = .ok (.ishl, 1) := by decide +kernel
theorem dX10_differOf_32 : decode cX10_differOf 32 = .ok (.ior, 1) := by decide +kernel
theorem dX10_differOf_33 : decode cX10_differOf 33 = .ok (.istore_n 3, 1) := by decide +kernel
theorem dX10_differOf_34 : decode cX10_differOf 34 = .ok (.iinc 4 1, 3) := by decide +kernel
theorem dX10_differOf_37 : decode cX10_differOf 37 = .ok (.goto (-32), 3) := by decide +kernel
theorem dX10_differOf_40 : decode cX10_differOf 40 = .ok (.iload_n 3, 1) := by decide +kernel
theorem dX10_differOf_41 : decode cX10_differOf 41 = .ok (.ireturn, 1) := by decide +kernel
theorem dX10_differ_0 : decode cX10_differ 0 = .ok (.iload_n 1, 1) := by decide +kernel
theorem dX10_differ_1 : decode cX10_differ 1 = .ok (.invokestatic 121, 3) := by decide +kernel
theorem dX10_differ_4 : decode cX10_differ 4 = .ok (.ifCond .eq 19, 3) := by decide +kernel
theorem dX10_differ_7 : decode cX10_differ 7 = .ok (.iload_n 2, 1) := by decide +kernel
theorem dX10_differ_8 : decode cX10_differ 8 = .ok (.invokestatic 121, 3) := by decide +kernel
theorem dX10_differ_11 : decode cX10_differ 11 = .ok (.ifCond .eq 12, 3) := by decide +kernel
theorem dX10_differ_14 : decode cX10_differ 14 = .ok (.aload_n 0, 1) := by decide +kernel
theorem dX10_differ_15 : decode cX10_differ 15 = .ok (.iload_n 1, 1) := by decide +kernel
theorem dX10_differ_16 : decode cX10_differ 16 = .ok (.iload_n 2, 1) := by decide +kernel
theorem dX10_differ_17 : decode cX10_differ 17 = .ok (.invokevirtual 174, 3) := by decide +kernel
theorem dX10_differ_20 : decode cX10_differ 20 = .ok (.goto 5, 3) := by decide +kernel
theorem dX10_differ_23 : decode cX10_differ 23 = .ok (.bipush (-2), 2) := by decide +kernel
theorem dX10_differ_25 : decode cX10_differ 25 = .ok (.ireturn, 1) := by decide +kernel
theorem dX10_mixes_0 : decode cX10_mixes 0 = .ok (.aload_n 0, 1) := by decide +kernel
theorem dX10_mixes_1 : decode cX10_mixes 1 = .ok (.iload_n 1, 1) := by decide +kernel
theorem dX10_mixes_2 : decode cX10_mixes 2 = .ok (.putfield 177, 3) := by decide +kernel
theorem dX10_mixes_5 : decode cX10_mixes 5 = .ok (.aload_n 0, 1) := by decide +kernel
theorem dX10_mixes_6 : decode cX10_mixes 6 = .ok (.iload_n 2, 1) := by decide +kernel
theorem dX10_mixes_7 : decode cX10_mixes 7 = .ok (.putfield 180, 3) := by decide +kernel
theorem dX10_mixes_10 : decode cX10_mixes 10 = .ok (.aload_n 0, 1) := by decide +kernel
theorem dX10_mixes_11 : decode cX10_mixes 11 = .ok (.iload_n 3, 1) := by decide +kernel
theorem dX10_mixes_12 : decode cX10_mixes 12 = .ok (.putfield 183, 3) := by decide +kernel
theorem dX10_mixes_15 : decode cX10_mixes 15 = .ok (.aload_n 0, 1) := by decide +kernel
theorem dX10_mixes_16 : decode cX10_mixes 16 = .ok (.iload_n 1, 1) := by decide +kernel
theorem dX10_mixes_17 : decode cX10_mixes 17 = .ok (.invokevirtual 161, 3) := by decide +kernel
theorem dX10_mixes_20 : decode cX10_mixes 20 = .ok (.aload_n 0, 1) := by decide +kernel
theorem dX10_mixes_21 : decode cX10_mixes 21 = .ok (.iload_n 2, 1) := by decide +kernel
theorem dX10_mixes_22 : decode cX10_mixes 22 = .ok (.invokevirtual 161, 3) := by decide +kernel
theorem dX10_mixes_25 : decode cX10_mixes 25 = .ok (.return_, 1) := by decide +kernel
theorem dX10_begins_0 : decode cX10_begins 0 = .ok (.iconst 0, 1) := by decide +kernel
theorem dX10_begins_1 : decode cX10_begins 1 = .ok (.istore_n 1, 1) := by decide +kernel
theorem dX10_begins_2 : decode cX10_begins 2 = .ok (.iload_n 1, 1) := by decide +kernel
theorem dX10_begins_3 : decode cX10_begins 3 = .ok (.iconst 3, 1) := by decide +kernel
theorem dX10_begins_4 : decode cX10_begins 4 = .ok (.if_icmp .ge 16, 3) := by decide +kernel
theorem dX10_begins_7 : decode cX10_begins 7 = .ok (.aload_n 0, 1) := by decide +kernel
theorem dX10_begins_8 : decode cX10_begins 8 = .ok (.getfield 38, 3) := by decide +kernel
theorem dX10_begins_11 : decode cX10_begins 11 = .ok (.iload_n 1, 1) := by decide +kernel
theorem dX10_begins_12 : decode cX10_begins 12 = .ok (.iconst 0, 1) := by decide +kernel
theorem dX10_begins_13 : decode cX10_begins 13 = .ok (.iastore, 1) := by decide +kernel
theorem dX10_begins_14 : decode cX10_begins 14 = .ok (.iinc 1 1, 3) := by decide +kernel
theorem dX10_begins_17 : decode cX10_begins 17 = .ok (.goto (-15), 3) := by decide +kernel
theorem dX10_begins_20 : decode cX10_begins 20 = .ok (.aload_n 0, 1) := by decide +kernel
theorem dX10_begins_21 : decode cX10_begins 21 = .ok (.iconst 0, 1) := by decide +kernel
theorem dX10_begins_22 : decode cX10_begins 22 = .ok (.putfield 186, 3) := by decide +kernel
theorem dX10_begins_25 : decode cX10_begins 25 = .ok (.aload_n 0, 1) := by decide +kernel
theorem dX10_begins_26 : decode cX10_begins 26 = .ok (.iconst 0, 1) := by decide +kernel
theorem dX10_begins_27 : decode cX10_begins 27 = .ok (.putfield 189, 3) := by decide +kernel
theorem dX10_begins_30 : decode cX10_begins 30 = .ok (.return_, 1) := by decide +kernel
theorem dX10_sets_0 : decode cX10_sets 0 = .ok (.aload_n 0, 1) := by decide +kernel
theorem dX10_sets_1 : decode cX10_sets 1 = .ok (.getfield 38, 3) := by decide +kernel
theorem dX10_sets_4 : decode cX10_sets 4 = .ok (.iload_n 1, 1) := by decide +kernel
theorem dX10_sets_5 : decode cX10_sets 5 = .ok (.iload_n 2, 1) := by decide +kernel
theorem dX10_sets_6 : decode cX10_sets 6 = .ok (.bipush 99, 2) := by decide +kernel
theorem dX10_sets_8 : decode cX10_sets 8 = .ok (.if_icmp .le 8, 3) := by decide +kernel
theorem dX10_sets_11 : decode cX10_sets 11 = .ok (.bipush 99, 2) := by decide +kernel
theorem dX10_sets_13 : decode cX10_sets 13 = .ok (.goto 15, 3) := by decide +kernel
theorem dX10_sets_16 : decode cX10_sets 16 = .ok (.iload_n 2, 1) := by decide +kernel
theorem dX10_sets_17 : decode cX10_sets 17 = .ok (.bipush (-99), 2) := by decide +kernel
theorem dX10_sets_19 : decode cX10_sets 19 = .ok (.if_icmp .ge 8, 3) := by decide +kernel
theorem dX10_sets_22 : decode cX10_sets 22 = .ok (.bipush (-99), 2) := by decide +kernel
theorem dX10_sets_24 : decode cX10_sets 24 = .ok (.goto 4, 3) := by decide +kernel
theorem dX10_sets_27 : decode cX10_sets 27 = .ok (.iload_n 2, 1) := by decide +kernel
theorem dX10_sets_28 : decode cX10_sets 28 = .ok (.iastore, 1) := by decide +kernel
theorem dX10_sets_29 : decode cX10_sets 29 = .ok (.return_, 1) := by decide +kernel
theorem dX10_goes_0 : decode cX10_goes 0 = .ok (.iconst 2, 1) := by decide +kernel
theorem dX10_goes_1 : decode cX10_goes 1 = .ok (.iload_n 1, 1) := by decide +kernel
theorem dX10_goes_2 : decode cX10_goes 2 = .ok (.imul, 1) := by decide +kernel
theorem dX10_goes_3 : decode cX10_goes 3 = .ok (.aload_n 0, 1) := by decide +kernel
theorem dX10_goes_4 : decode cX10_goes 4 = .ok (.getfield 186, 3) := by decide +kernel
theorem dX10_goes_7 : decode cX10_goes 7 = .ok (.iadd, 1) := by decide +kernel
theorem dX10_goes_8 : decode cX10_goes 8 = .ok (.istore_n 2, 1) := by decide +kernel
theorem dX10_goes_9 : decode cX10_goes 9 = .ok (.aload_n 0, 1) := by decide +kernel
theorem dX10_goes_10 : decode cX10_goes 10 = .ok (.getfield 183, 3) := by decide +kernel
theorem dX10_goes_13 : decode cX10_goes 13 = .ok (.iload_n 2, 1) := by decide +kernel
theorem dX10_goes_14 : decode cX10_goes 14 = .ok (.ishr, 1) := by decide +kernel
theorem dX10_goes_15 : decode cX10_goes 15 = .ok (.iconst 1, 1) := by decide +kernel
theorem dX10_goes_16 : decode cX10_goes 16 = .ok (.iand, 1) := by decide +kernel
theorem dX10_goes_17 : decode cX10_goes 17 = .ok (.iconst 1, 1) := by decide +kernel
theorem dX10_goes_18 : decode cX10_goes 18 = .ok (.if_icmp .ne 10, 3) := by decide +kernel
theorem dX10_goes_21 : decode cX10_goes 21 = .ok (.aload_n 0, 1) := by decide +kernel
theorem dX10_goes_22 : decode cX10_goes 22 = .ok (.getfield 180, 3) := by decide +kernel
theorem dX10_goes_25 : decode cX10_goes 25 = .ok (.goto 7, 3) := by decide +kernel
theorem dX10_goes_28 : decode cX10_goes 28 = .ok (.aload_n 0, 1) := by decide +kernel
theorem dX10_goes_29 : decode cX10_goes 29 = .ok (.getfield 177, 3) := by decide +kernel
theorem dX10_goes_32 : decode cX10_goes 32 = .ok (.istore_n 3, 1) := by decide +kernel
theorem dX10_goes_33 : decode cX10_goes 33 = .ok (.bipush 60, 2) := by decide +kernel
theorem dX10_goes_35 : decode cX10_goes 35 = .ok (.iload_n 3, 1) := by decide +kernel
theorem dX10_goes_36 : decode cX10_goes 36 = .ok (.imul, 1) := by decide +kernel
theorem dX10_goes_37 : decode cX10_goes 37 = .ok (.aload_n 0, 1) := by decide +kernel
theorem dX10_goes_38 : decode cX10_goes 38 = .ok (.getfield 23, 3) := by decide +kernel
theorem dX10_goes_41 : decode cX10_goes 41 = .ok (.bipush 16, 2) := by decide +kernel
theorem dX10_goes_43 : decode cX10_goes 43 = .ok (.iload_n 3, 1) := by decide +kernel
theorem dX10_goes_44 : decode cX10_goes 44 = .ok (.imul, 1) := by decide +kernel
theorem dX10_goes_45 : decode cX10_goes 45 = .ok (.iload_n 2, 1) := by decide +kernel
theorem dX10_goes_46 : decode cX10_goes 46 = .ok (.iadd, 1) := by decide +kernel
theorem dX10_goes_47 : decode cX10_goes 47 = .ok (.iaload, 1) := by decide +kernel
theorem dX10_goes_48 : decode cX10_goes 48 = .ok (.iadd, 1) := by decide +kernel
theorem dX10_goes_49 : decode cX10_goes 49 = .ok (.istore 4, 2) := by decide +kernel
theorem dX10_goes_51 : decode cX10_goes 51 = .ok (.iload 4, 2) := by decide +kernel
theorem dX10_goes_53 : decode cX10_goes 53 = .ok (.aload_n 0, 1) := by decide +kernel
theorem dX10_goes_54 : decode cX10_goes 54 = .ok (.getfield 26, 3) := by decide +kernel
theorem dX10_goes_57 : decode cX10_goes 57 = .ok (.bipush 16, 2) := by decide +kernel
theorem dX10_goes_59 : decode cX10_goes 59 = .ok (.iload_n 3, 1) := by decide +kernel
theorem dX10_goes_60 : decode cX10_goes 60 = .ok (.imul, 1) := by decide +kernel
theorem dX10_goes_61 : decode cX10_goes 61 = .ok (.iload_n 2, 1) := by decide +kernel
theorem dX10_goes_62 : decode cX10_goes 62 = .ok (.iadd, 1) := by decide +kernel
theorem dX10_goes_63 : decode cX10_goes 63 = .ok (.iaload, 1) := by decide +kernel
theorem dX10_goes_64 : decode cX10_goes 64 = .ok (.iadd, 1) := by decide +kernel
theorem dX10_goes_65 : decode cX10_goes 65 = .ok (.istore 5, 2) := by decide +kernel
theorem dX10_goes_67 : decode cX10_goes 67 = .ok (.aload_n 0, 1) := by decide +kernel
theorem dX10_goes_68 : decode cX10_goes 68 = .ok (.dup, 1) := by decide +kernel
theorem dX10_goes_69 : decode cX10_goes 69 = .ok (.getfield 189, 3) := by decide +kernel
theorem dX10_goes_72 : decode cX10_goes 72 = .ok (.iload_n 1, 1) := by decide +kernel
theorem dX10_goes_73 : decode cX10_goes 73 = .ok (.ifCond .ne 7, 3) := by decide +kernel
theorem dX10_goes_76 : decode cX10_goes 76 = .ok (.iconst 1, 1) := by decide +kernel
theorem dX10_goes_77 : decode cX10_goes 77 = .ok (.goto 13, 3) := by decide +kernel
theorem dX10_goes_80 : decode cX10_goes 80 = .ok (.iload_n 1, 1) := by decide +kernel
theorem dX10_goes_81 : decode cX10_goes 81 = .ok (.iconst 1, 1) := by decide +kernel
theorem dX10_goes_82 : decode cX10_goes 82 = .ok (.if_icmp .ne 7, 3) := by decide +kernel
theorem dX10_goes_85 : decode cX10_goes 85 = .ok (.iconst (-1), 1) := by decide +kernel
theorem dX10_goes_86 : decode cX10_goes 86 = .ok (.goto 4, 3) := by decide +kernel
theorem dX10_goes_89 : decode cX10_goes 89 = .ok (.iconst 0, 1) := by decide +kernel
theorem dX10_goes_90 : decode cX10_goes 90 = .ok (.iadd, 1) := by decide +kernel
theorem dX10_goes_91 : decode cX10_goes 91 = .ok (.putfield 189, 3) := by decide +kernel
theorem dX10_goes_94 : decode cX10_goes 94 = .ok (.iload 4, 2) := by decide +kernel
theorem dX10_goes_96 : decode cX10_goes 96 = .ok (.istore 6, 2) := by decide +kernel
theorem dX10_goes_98 : decode cX10_goes 98 = .ok (.iload 6, 2) := by decide +kernel
theorem dX10_goes_100 : decode cX10_goes 100 = .ok (.iload 5, 2) := by decide +kernel
theorem dX10_goes_102 : decode cX10_goes 102 = .ok (.if_icmp .ge 143, 3) := by decide +kernel
theorem dX10_goes_105 : decode cX10_goes 105 = .ok (.aload_n 0, 1) := by decide +kernel
theorem dX10_goes_106 : decode cX10_goes 106 = .ok (.getfield 29, 3) := by decide +kernel
theorem dX10_goes_109 : decode cX10_goes 109 = .ok (.iload 6, 2) := by decide +kernel
theorem dX10_goes_111 : decode cX10_goes 111 = .ok (.iaload, 1) := by decide +kernel
theorem dX10_goes_112 : decode cX10_goes 112 = .ok (.iconst 3, 1) := by decide +kernel
theorem dX10_goes_113 : decode cX10_goes 113 = .ok (.if_icmp .ge 33, 3) := by decide +kernel
theorem dX10_goes_116 : decode cX10_goes 116 = .ok (.aload_n 0, 1) := by decide +kernel
theorem dX10_goes_117 : decode cX10_goes 117 = .ok (.getfield 35, 3) := by decide +kernel
theorem dX10_goes_120 : decode cX10_goes 120 = .ok (.iload 6, 2) := by decide +kernel
theorem dX10_goes_122 : decode cX10_goes 122 = .ok (.iaload, 1) := by decide +kernel
theorem dX10_goes_123 : decode cX10_goes 123 = .ok (.bipush 9, 2) := by decide +kernel
theorem dX10_goes_125 : decode cX10_goes 125 = .ok (.if_icmp .le 21, 3) := by decide +kernel
theorem dX10_goes_128 : decode cX10_goes 128 = .ok (.aload_n 0, 1) := by decide +kernel
theorem dX10_goes_129 : decode cX10_goes 129 = .ok (.getfield 38, 3) := by decide +kernel
theorem dX10_goes_132 : decode cX10_goes 132 = .ok (.aload_n 0, 1) := by decide +kernel
theorem dX10_goes_133 : decode cX10_goes 133 = .ok (.getfield 35, 3) := by decide +kernel
theorem dX10_goes_136 : decode cX10_goes 136 = .ok (.iload 6, 2) := by decide +kernel
theorem dX10_goes_138 : decode cX10_goes 138 = .ok (.iaload, 1) := by decide +kernel
theorem dX10_goes_139 : decode cX10_goes 139 = .ok (.bipush 10, 2) := by decide +kernel
theorem dX10_goes_141 : decode cX10_goes 141 = .ok (.isub, 1) := by decide +kernel
theorem dX10_goes_142 : decode cX10_goes 142 = .ok (.iaload, 1) := by decide +kernel
theorem dX10_goes_143 : decode cX10_goes 143 = .ok (.goto 10, 3) := by decide +kernel
theorem dX10_goes_146 : decode cX10_goes 146 = .ok (.aload_n 0, 1) := by decide +kernel
theorem dX10_goes_147 : decode cX10_goes 147 = .ok (.getfield 35, 3) := by decide +kernel
theorem dX10_goes_150 : decode cX10_goes 150 = .ok (.iload 6, 2) := by decide +kernel
theorem dX10_goes_152 : decode cX10_goes 152 = .ok (.iaload, 1) := by decide +kernel
theorem dX10_goes_153 : decode cX10_goes 153 = .ok (.istore 7, 2) := by decide +kernel
theorem dX10_goes_155 : decode cX10_goes 155 = .ok (.aload_n 0, 1) := by decide +kernel
theorem dX10_goes_156 : decode cX10_goes 156 = .ok (.getfield 29, 3) := by decide +kernel
theorem dX10_goes_159 : decode cX10_goes 159 = .ok (.iload 6, 2) := by decide +kernel
theorem dX10_goes_161 : decode cX10_goes 161 = .ok (.iaload, 1) := by decide +kernel
theorem dX10_goes_162 : decode cX10_goes 162 = .ok (.iconst 3, 1) := by decide +kernel
theorem dX10_goes_163 : decode cX10_goes 163 = .ok (.if_icmp .ne 12, 3) := by decide +kernel
theorem dX10_goes_166 : decode cX10_goes 166 = .ok (.aload_n 0, 1) := by decide +kernel
theorem dX10_goes_167 : decode cX10_goes 167 = .ok (.iload 7, 2) := by decide +kernel
theorem dX10_goes_169 : decode cX10_goes 169 = .ok (.putfield 186, 3) := by decide +kernel
theorem dX10_goes_172 : decode cX10_goes 172 = .ok (.goto 67, 3) := by decide +kernel
theorem dX10_goes_175 : decode cX10_goes 175 = .ok (.aload_n 0, 1) := by decide +kernel
theorem dX10_goes_176 : decode cX10_goes 176 = .ok (.getfield 38, 3) := by decide +kernel
theorem dX10_goes_179 : decode cX10_goes 179 = .ok (.aload_n 0, 1) := by decide +kernel
theorem dX10_goes_180 : decode cX10_goes 180 = .ok (.getfield 29, 3) := by decide +kernel
theorem dX10_goes_183 : decode cX10_goes 183 = .ok (.iload 6, 2) := by decide +kernel
theorem dX10_goes_185 : decode cX10_goes 185 = .ok (.iaload, 1) := by decide +kernel
theorem dX10_goes_186 : decode cX10_goes 186 = .ok (.iaload, 1) := by decide +kernel
theorem dX10_goes_187 : decode cX10_goes 187 = .ok (.istore 8, 2) := by decide +kernel
theorem dX10_goes_189 : decode cX10_goes 189 = .ok (.aload_n 0, 1) := by decide +kernel
theorem dX10_goes_190 : decode cX10_goes 190 = .ok (.aload_n 0, 1) := by decide +kernel
theorem dX10_goes_191 : decode cX10_goes 191 = .ok (.getfield 29, 3) := by decide +kernel
theorem dX10_goes_194 : decode cX10_goes 194 = .ok (.iload 6, 2) := by decide +kernel
theorem dX10_goes_196 : decode cX10_goes 196 = .ok (.iaload, 1) := by decide +kernel
theorem dX10_goes_197 : decode cX10_goes 197 = .ok (.aload_n 0, 1) := by decide +kernel
theorem dX10_goes_198 : decode cX10_goes 198 = .ok (.getfield 32, 3) := by decide +kernel
theorem dX10_goes_201 : decode cX10_goes 201 = .ok (.iload 6, 2) := by decide +kernel
theorem dX10_goes_203 : decode cX10_goes 203 = .ok (.iaload, 1) := by decide +kernel
theorem dX10_goes_204 : decode cX10_goes 204 = .ok (.ifCond .ne 8, 3) := by decide +kernel
theorem dX10_goes_207 : decode cX10_goes 207 = .ok (.iload 7, 2) := by decide +kernel
theorem dX10_goes_209 : decode cX10_goes 209 = .ok (.goto 27, 3) := by decide +kernel
theorem dX10_goes_212 : decode cX10_goes 212 = .ok (.aload_n 0, 1) := by decide +kernel
theorem dX10_goes_213 : decode cX10_goes 213 = .ok (.getfield 32, 3) := by decide +kernel
theorem dX10_goes_216 : decode cX10_goes 216 = .ok (.iload 6, 2) := by decide +kernel
theorem dX10_goes_218 : decode cX10_goes 218 = .ok (.iaload, 1) := by decide +kernel
theorem dX10_goes_219 : decode cX10_goes 219 = .ok (.iconst 1, 1) := by decide +kernel
theorem dX10_goes_220 : decode cX10_goes 220 = .ok (.if_icmp .ne 11, 3) := by decide +kernel
theorem dX10_goes_223 : decode cX10_goes 223 = .ok (.iload 8, 2) := by decide +kernel
theorem dX10_goes_225 : decode cX10_goes 225 = .ok (.iload 7, 2) := by decide +kernel
theorem dX10_goes_227 : decode cX10_goes 227 = .ok (.iadd, 1) := by decide +kernel
theorem dX10_goes_228 : decode cX10_goes 228 = .ok (.goto 8, 3) := by decide +kernel
theorem dX10_goes_231 : decode cX10_goes 231 = .ok (.iload 8, 2) := by decide +kernel
theorem dX10_goes_233 : decode cX10_goes 233 = .ok (.iload 7, 2) := by decide +kernel
theorem dX10_goes_235 : decode cX10_goes 235 = .ok (.isub, 1) := by decide +kernel
theorem dX10_goes_236 : decode cX10_goes 236 = .ok (.invokevirtual 192, 3) := by decide +kernel
theorem dX10_goes_239 : decode cX10_goes 239 = .ok (.iinc 6 1, 3) := by decide +kernel
theorem dX10_goes_242 : decode cX10_goes 242 = .ok (.goto (-144), 3) := by decide +kernel
theorem dX10_goes_245 : decode cX10_goes 245 = .ok (.return_, 1) := by decide +kernel
theorem dX10_isMix_0 : decode cX10_isMix 0 = .ok (.iload_n 0, 1) := by decide +kernel
theorem dX10_isMix_1 : decode cX10_isMix 1 = .ok (.invokestatic 121, 3) := by decide +kernel
theorem dX10_isMix_4 : decode cX10_isMix 4 = .ok (.ifCond .eq 24, 3) := by decide +kernel
theorem dX10_isMix_7 : decode cX10_isMix 7 = .ok (.iload_n 1, 1) := by decide +kernel
theorem dX10_isMix_8 : decode cX10_isMix 8 = .ok (.invokestatic 121, 3) := by decide +kernel
theorem dX10_isMix_11 : decode cX10_isMix 11 = .ok (.ifCond .eq 17, 3) := by decide +kernel
theorem dX10_isMix_14 : decode cX10_isMix 14 = .ok (.iload_n 2, 1) := by decide +kernel
theorem dX10_isMix_15 : decode cX10_isMix 15 = .ok (.iconst 0, 1) := by decide +kernel
theorem dX10_isMix_16 : decode cX10_isMix 16 = .ok (.ldc 196, 2) := by decide +kernel
theorem dX10_isMix_18 : decode cX10_isMix 18 = .ok (.invokestatic 117, 3) := by decide +kernel
theorem dX10_isMix_21 : decode cX10_isMix 21 = .ok (.ifCond .eq 7, 3) := by decide +kernel
theorem dX10_isMix_24 : decode cX10_isMix 24 = .ok (.iconst 1, 1) := by decide +kernel
theorem dX10_isMix_25 : decode cX10_isMix 25 = .ok (.goto 4, 3) := by decide +kernel
theorem dX10_isMix_28 : decode cX10_isMix 28 = .ok (.iconst 0, 1) := by decide +kernel
theorem dX10_isMix_29 : decode cX10_isMix 29 = .ok (.ireturn, 1) := by decide +kernel
theorem dX10_isEvent_0 : decode cX10_isEvent 0 = .ok (.iload_n 0, 1) := by decide +kernel
theorem dX10_isEvent_1 : decode cX10_isEvent 1 = .ok (.iconst 0, 1) := by decide +kernel
theorem dX10_isEvent_2 : decode cX10_isEvent 2 = .ok (.bipush 7, 2) := by decide +kernel
theorem dX10_isEvent_4 : decode cX10_isEvent 4 = .ok (.invokestatic 117, 3) := by decide +kernel
theorem dX10_isEvent_7 : decode cX10_isEvent 7 = .ok (.ireturn, 1) := by decide +kernel
theorem dX10_run_0 : decode cX10_run 0 = .ok (.iload_n 1, 1) := by decide +kernel
theorem dX10_run_1 : decode cX10_run 1 = .ok (.iload_n 2, 1) := by decide +kernel
theorem dX10_run_2 : decode cX10_run 2 = .ok (.iload_n 3, 1) := by decide +kernel
theorem dX10_run_3 : decode cX10_run 3 = .ok (.invokestatic 197, 3) := by decide +kernel
theorem dX10_run_6 : decode cX10_run 6 = .ok (.ifCond .eq 32, 3) := by decide +kernel
theorem dX10_run_9 : decode cX10_run 9 = .ok (.iload 4, 2) := by decide +kernel
theorem dX10_run_11 : decode cX10_run 11 = .ok (.invokestatic 200, 3) := by decide +kernel
theorem dX10_run_14 : decode cX10_run 14 = .ok (.ifCond .eq 24, 3) := by decide +kernel
theorem dX10_run_17 : decode cX10_run 17 = .ok (.iload 5, 2) := by decide +kernel
theorem dX10_run_19 : decode cX10_run 19 = .ok (.iconst 0, 1) := by decide +kernel
theorem dX10_run_20 : decode cX10_run 20 = .ok (.bipush 40, 2) := by decide +kernel
theorem dX10_run_22 : decode cX10_run 22 = .ok (.invokestatic 117, 3) := by decide +kernel
theorem dX10_run_25 : decode cX10_run 25 = .ok (.ifCond .eq 13, 3) := by decide +kernel
theorem dX10_run_28 : decode cX10_run 28 = .ok (.iload 6, 2) := by decide +kernel
theorem dX10_run_30 : decode cX10_run 30 = .ok (.iconst 0, 1) := by decide +kernel
theorem dX10_run_31 : decode cX10_run 31 = .ok (.iconst 5, 1) := by decide +kernel
theorem dX10_run_32 : decode cX10_run 32 = .ok (.invokestatic 117, 3) := by decide +kernel
theorem dX10_run_35 : decode cX10_run 35 = .ok (.ifCond .ne 7, 3) := by decide +kernel
theorem dX10_run_38 : decode cX10_run 38 = .ok (.sipush (-1000), 3) := by decide +kernel
theorem dX10_run_41 : decode cX10_run 41 = .ok (.ireturn, 1) := by decide +kernel
theorem dX10_run_42 : decode cX10_run 42 = .ok (.aload_n 0, 1) := by decide +kernel
theorem dX10_run_43 : decode cX10_run 43 = .ok (.getfield 102, 3) := by decide +kernel
theorem dX10_run_46 : decode cX10_run 46 = .ok (.iload 4, 2) := by decide +kernel
theorem dX10_run_48 : decode cX10_run 48 = .ok (.baload, 1) := by decide +kernel
theorem dX10_run_49 : decode cX10_run 49 = .ok (.ifCond .eq 15, 3) := by decide +kernel
theorem dX10_run_52 : decode cX10_run 52 = .ok (.aload_n 0, 1) := by decide +kernel
theorem dX10_run_53 : decode cX10_run 53 = .ok (.getfield 108, 3) := by decide +kernel
theorem dX10_run_56 : decode cX10_run 56 = .ok (.iload 4, 2) := by decide +kernel
theorem dX10_run_58 : decode cX10_run 58 = .ok (.iaload, 1) := by decide +kernel
theorem dX10_run_59 : decode cX10_run 59 = .ok (.iload 5, 2) := by decide +kernel
theorem dX10_run_61 : decode cX10_run 61 = .ok (.if_icmp .ge 26, 3) := by decide +kernel
theorem dX10_run_64 : decode cX10_run 64 = .ok (.aload_n 0, 1) := by decide +kernel
theorem dX10_run_65 : decode cX10_run 65 = .ok (.aload_n 0, 1) := by decide +kernel
theorem dX10_run_66 : decode cX10_run 66 = .ok (.getfield 102, 3) := by decide +kernel
theorem dX10_run_69 : decode cX10_run 69 = .ok (.iload 4, 2) := by decide +kernel
theorem dX10_run_71 : decode cX10_run 71 = .ok (.baload, 1) := by decide +kernel
theorem dX10_run_72 : decode cX10_run 72 = .ok (.ifCond .eq 7, 3) := by decide +kernel
theorem dX10_run_75 : decode cX10_run 75 = .ok (.iconst 2, 1) := by decide +kernel
theorem dX10_run_76 : decode cX10_run 76 = .ok (.goto 4, 3) := by decide +kernel
theorem dX10_run_79 : decode cX10_run 79 = .ok (.iconst 1, 1) := by decide +kernel
theorem dX10_run_80 : decode cX10_run 80 = .ok (.putfield 203, 3) := by decide +kernel
theorem dX10_run_83 : decode cX10_run 83 = .ok (.sipush (-1000), 3) := by decide +kernel
theorem dX10_run_86 : decode cX10_run 86 = .ok (.ireturn, 1) := by decide +kernel
theorem dX10_run_87 : decode cX10_run 87 = .ok (.iconst 0, 1) := by decide +kernel
theorem dX10_run_88 : decode cX10_run 88 = .ok (.istore 7, 2) := by decide +kernel
theorem dX10_run_90 : decode cX10_run 90 = .ok (.iload 7, 2) := by decide +kernel
theorem dX10_run_92 : decode cX10_run 92 = .ok (.iload 5, 2) := by decide +kernel
theorem dX10_run_94 : decode cX10_run 94 = .ok (.if_icmp .ge 32, 3) := by decide +kernel
theorem dX10_run_97 : decode cX10_run 97 = .ok (.aload_n 0, 1) := by decide +kernel
theorem dX10_run_98 : decode cX10_run 98 = .ok (.getfield 111, 3) := by decide +kernel
theorem dX10_run_101 : decode cX10_run 101 = .ok (.bipush 40, 2) := by decide +kernel
theorem dX10_run_103 : decode cX10_run 103 = .ok (.iload 4, 2) := by decide +kernel
theorem dX10_run_105 : decode cX10_run 105 = .ok (.imul, 1) := by decide +kernel
theorem dX10_run_106 : decode cX10_run 106 = .ok (.iload 7, 2) := by decide +kernel
theorem dX10_run_108 : decode cX10_run 108 = .ok (.iadd, 1) := by decide +kernel
theorem dX10_run_109 : decode cX10_run 109 = .ok (.iaload, 1) := by decide +kernel
theorem dX10_run_110 : decode cX10_run 110 = .ok (.invokestatic 206, 3) := by decide +kernel
theorem dX10_run_113 : decode cX10_run 113 = .ok (.ifCond .ne 7, 3) := by decide +kernel
theorem dX10_run_116 : decode cX10_run 116 = .ok (.sipush (-1000), 3) := by decide +kernel
theorem dX10_run_119 : decode cX10_run 119 = .ok (.ireturn, 1) := by decide +kernel
theorem dX10_run_120 : decode cX10_run 120 = .ok (.iinc 7 1, 3) := by decide +kernel
theorem dX10_run_123 : decode cX10_run 123 = .ok (.goto (-33), 3) := by decide +kernel
theorem dX10_run_126 : decode cX10_run 126 = .ok (.aload_n 0, 1) := by decide +kernel
theorem dX10_run_127 : decode cX10_run 127 = .ok (.iload_n 1, 1) := by decide +kernel
theorem dX10_run_128 : decode cX10_run 128 = .ok (.iload_n 2, 1) := by decide +kernel
theorem dX10_run_129 : decode cX10_run 129 = .ok (.iload_n 3, 1) := by decide +kernel
theorem dX10_run_130 : decode cX10_run 130 = .ok (.invokevirtual 209, 3) := by decide +kernel
theorem dX10_run_133 : decode cX10_run 133 = .ok (.aload_n 0, 1) := by decide +kernel
theorem dX10_run_134 : decode cX10_run 134 = .ok (.invokevirtual 213, 3) := by decide +kernel
theorem dX10_run_137 : decode cX10_run 137 = .ok (.iconst 0, 1) := by decide +kernel
theorem dX10_run_138 : decode cX10_run 138 = .ok (.istore 7, 2) := by decide +kernel
theorem dX10_run_140 : decode cX10_run 140 = .ok (.iload 7, 2) := by decide +kernel
theorem dX10_run_142 : decode cX10_run 142 = .ok (.iload 5, 2) := by decide +kernel
theorem dX10_run_144 : decode cX10_run 144 = .ok (.if_icmp .ge 26, 3) := by decide +kernel
theorem dX10_run_147 : decode cX10_run 147 = .ok (.aload_n 0, 1) := by decide +kernel
theorem dX10_run_148 : decode cX10_run 148 = .ok (.aload_n 0, 1) := by decide +kernel
theorem dX10_run_149 : decode cX10_run 149 = .ok (.getfield 111, 3) := by decide +kernel
theorem dX10_run_152 : decode cX10_run 152 = .ok (.bipush 40, 2) := by decide +kernel
theorem dX10_run_154 : decode cX10_run 154 = .ok (.iload 4, 2) := by decide +kernel
theorem dX10_run_156 : decode cX10_run 156 = .ok (.imul, 1) := by decide +kernel
theorem dX10_run_157 : decode cX10_run 157 = .ok (.iload 7, 2) := by decide +kernel
theorem dX10_run_159 : decode cX10_run 159 = .ok (.iadd, 1) := by decide +kernel
theorem dX10_run_160 : decode cX10_run 160 = .ok (.iaload, 1) := by decide +kernel
theorem dX10_run_161 : decode cX10_run 161 = .ok (.invokevirtual 216, 3) := by decide +kernel
theorem dX10_run_164 : decode cX10_run 164 = .ok (.iinc 7 1, 3) := by decide +kernel
theorem dX10_run_167 : decode cX10_run 167 = .ok (.goto (-27), 3) := by decide +kernel
theorem dX10_run_170 : decode cX10_run 170 = .ok (.iload 5, 2) := by decide +kernel
theorem dX10_run_172 : decode cX10_run 172 = .ok (.ifCond .le 40, 3) := by decide +kernel
theorem dX10_run_175 : decode cX10_run 175 = .ok (.aload_n 0, 1) := by decide +kernel
theorem dX10_run_176 : decode cX10_run 176 = .ok (.getfield 111, 3) := by decide +kernel
theorem dX10_run_179 : decode cX10_run 179 = .ok (.bipush 40, 2) := by decide +kernel
theorem dX10_run_181 : decode cX10_run 181 = .ok (.iload 4, 2) := by decide +kernel
theorem dX10_run_183 : decode cX10_run 183 = .ok (.imul, 1) := by decide +kernel
theorem dX10_run_184 : decode cX10_run 184 = .ok (.iload 5, 2) := by decide +kernel
theorem dX10_run_186 : decode cX10_run 186 = .ok (.iadd, 1) := by decide +kernel
theorem dX10_run_187 : decode cX10_run 187 = .ok (.iconst 1, 1) := by decide +kernel
theorem dX10_run_188 : decode cX10_run 188 = .ok (.isub, 1) := by decide +kernel
theorem dX10_run_189 : decode cX10_run 189 = .ok (.iaload, 1) := by decide +kernel
theorem dX10_run_190 : decode cX10_run 190 = .ok (.bipush 7, 2) := by decide +kernel
theorem dX10_run_192 : decode cX10_run 192 = .ok (.if_icmp .ne 20, 3) := by decide +kernel
theorem dX10_run_195 : decode cX10_run 195 = .ok (.aload_n 0, 1) := by decide +kernel
theorem dX10_run_196 : decode cX10_run 196 = .ok (.getfield 38, 3) := by decide +kernel
theorem dX10_run_199 : decode cX10_run 199 = .ok (.iconst 2, 1) := by decide +kernel
theorem dX10_run_200 : decode cX10_run 200 = .ok (.iaload, 1) := by decide +kernel
theorem dX10_run_201 : decode cX10_run 201 = .ok (.aload_n 0, 1) := by decide +kernel
theorem dX10_run_202 : decode cX10_run 202 = .ok (.getfield 189, 3) := by decide +kernel
theorem dX10_run_205 : decode cX10_run 205 = .ok (.if_icmp .eq 7, 3) := by decide +kernel
theorem dX10_run_208 : decode cX10_run 208 = .ok (.iconst 1, 1) := by decide +kernel
theorem dX10_run_209 : decode cX10_run 209 = .ok (.goto 4, 3) := by decide +kernel
theorem dX10_run_212 : decode cX10_run 212 = .ok (.iconst 0, 1) := by decide +kernel
theorem dX10_run_213 : decode cX10_run 213 = .ok (.istore 7, 2) := by decide +kernel
theorem dX10_run_215 : decode cX10_run 215 = .ok (.iload 6, 2) := by decide +kernel
theorem dX10_run_217 : decode cX10_run 217 = .ok (.iconst 3, 1) := by decide +kernel
theorem dX10_run_218 : decode cX10_run 218 = .ok (.if_icmp .ge 13, 3) := by decide +kernel
theorem dX10_run_221 : decode cX10_run 221 = .ok (.aload_n 0, 1) := by decide +kernel
theorem dX10_run_222 : decode cX10_run 222 = .ok (.getfield 38, 3) := by decide +kernel
theorem dX10_run_225 : decode cX10_run 225 = .ok (.iload 6, 2) := by decide +kernel
theorem dX10_run_227 : decode cX10_run 227 = .ok (.iaload, 1) := by decide +kernel
theorem dX10_run_228 : decode cX10_run 228 = .ok (.goto 39, 3) := by decide +kernel
theorem dX10_run_231 : decode cX10_run 231 = .ok (.iload 6, 2) := by decide +kernel
theorem dX10_run_233 : decode cX10_run 233 = .ok (.iconst 3, 1) := by decide +kernel
theorem dX10_run_234 : decode cX10_run 234 = .ok (.if_icmp .ne 10, 3) := by decide +kernel
theorem dX10_run_237 : decode cX10_run 237 = .ok (.aload_n 0, 1) := by decide +kernel
theorem dX10_run_238 : decode cX10_run 238 = .ok (.getfield 186, 3) := by decide +kernel
theorem dX10_run_241 : decode cX10_run 241 = .ok (.goto 26, 3) := by decide +kernel
theorem dX10_run_244 : decode cX10_run 244 = .ok (.iload 6, 2) := by decide +kernel
theorem dX10_run_246 : decode cX10_run 246 = .ok (.iconst 4, 1) := by decide +kernel
theorem dX10_run_247 : decode cX10_run 247 = .ok (.if_icmp .ne 10, 3) := by decide +kernel
theorem dX10_run_250 : decode cX10_run 250 = .ok (.aload_n 0, 1) := by decide +kernel
theorem dX10_run_251 : decode cX10_run 251 = .ok (.getfield 189, 3) := by decide +kernel
theorem dX10_run_254 : decode cX10_run 254 = .ok (.goto 13, 3) := by decide +kernel
theorem dX10_run_257 : decode cX10_run 257 = .ok (.iload 7, 2) := by decide +kernel
theorem dX10_run_259 : decode cX10_run 259 = .ok (.ifCond .eq 7, 3) := by decide +kernel
theorem dX10_run_262 : decode cX10_run 262 = .ok (.iconst 1, 1) := by decide +kernel
theorem dX10_run_263 : decode cX10_run 263 = .ok (.goto 4, 3) := by decide +kernel
theorem dX10_run_266 : decode cX10_run 266 = .ok (.iconst 0, 1) := by decide +kernel
theorem dX10_run_267 : decode cX10_run 267 = .ok (.ireturn, 1) := by decide +kernel
theorem dX10_doesPart_0 : decode cX10_doesPart 0 = .ok (.aload_n 0, 1) := by decide +kernel
theorem dX10_doesPart_1 : decode cX10_doesPart 1 = .ok (.invokevirtual 213, 3) := by decide +kernel
theorem dX10_doesPart_4 : decode cX10_doesPart 4 = .ok (.iconst 0, 1) := by decide +kernel
theorem dX10_doesPart_5 : decode cX10_doesPart 5 = .ok (.istore_n 3, 1) := by decide +kernel
theorem dX10_doesPart_6 : decode cX10_doesPart 6 = .ok (.iload_n 3, 1) := by decide +kernel
theorem dX10_doesPart_7 : decode cX10_doesPart 7 = .ok (.iload_n 1, 1) := by decide +kernel
theorem dX10_doesPart_8 : decode cX10_doesPart 8 = .ok (.iconst 1, 1) := by decide +kernel
theorem dX10_doesPart_9 : decode cX10_doesPart 9 = .ok (.isub, 1) := by decide +kernel
theorem dX10_doesPart_10 : decode cX10_doesPart 10 = .ok (.if_icmp .ge 37, 3) := by decide +kernel
theorem dX10_doesPart_13 : decode cX10_doesPart 13 = .ok (.aload_n 0, 1) := by decide +kernel
theorem dX10_doesPart_14 : decode cX10_doesPart 14 = .ok (.getfield 41, 3) := by decide +kernel
theorem dX10_doesPart_17 : decode cX10_doesPart 17 = .ok (.iload_n 3, 1) := by decide +kernel
theorem dX10_doesPart_18 : decode cX10_doesPart 18 = .ok (.iload_n 2, 1) := by decide +kernel
theorem dX10_doesPart_19 : decode cX10_doesPart 19 = .ok (.iconst 3, 1) := by decide +kernel
theorem dX10_doesPart_20 : decode cX10_doesPart 20 = .ok (.iload_n 1, 1) := by decide +kernel
theorem dX10_doesPart_21 : decode cX10_doesPart 21 = .ok (.iconst 2, 1) := by decide +kernel
theorem dX10_doesPart_22 : decode cX10_doesPart 22 = .ok (.isub, 1) := by decide +kernel
theorem dX10_doesPart_23 : decode cX10_doesPart 23 = .ok (.iload_n 3, 1) := by decide +kernel
theorem dX10_doesPart_24 : decode cX10_doesPart 24 = .ok (.isub, 1) := by decide +kernel
theorem dX10_doesPart_25 : decode cX10_doesPart 25 = .ok (.imul, 1) := by decide +kernel
theorem dX10_doesPart_26 : decode cX10_doesPart 26 = .ok (.ishr, 1) := by decide +kernel
theorem dX10_doesPart_27 : decode cX10_doesPart 27 = .ok (.bipush 7, 2) := by decide +kernel
theorem dX10_doesPart_29 : decode cX10_doesPart 29 = .ok (.iand, 1) := by decide +kernel
theorem dX10_doesPart_30 : decode cX10_doesPart 30 = .ok (.iastore, 1) := by decide +kernel
theorem dX10_doesPart_31 : decode cX10_doesPart 31 = .ok (.aload_n 0, 1) := by decide +kernel
theorem dX10_doesPart_32 : decode cX10_doesPart 32 = .ok (.aload_n 0, 1) := by decide +kernel
theorem dX10_doesPart_33 : decode cX10_doesPart 33 = .ok (.getfield 41, 3) := by decide +kernel
theorem dX10_doesPart_36 : decode cX10_doesPart 36 = .ok (.iload_n 3, 1) := by decide +kernel
theorem dX10_doesPart_37 : decode cX10_doesPart 37 = .ok (.iaload, 1) := by decide +kernel
theorem dX10_doesPart_38 : decode cX10_doesPart 38 = .ok (.invokevirtual 216, 3) := by decide +kernel
theorem dX10_doesPart_41 : decode cX10_doesPart 41 = .ok (.iinc 3 1, 3) := by decide +kernel
theorem dX10_doesPart_44 : decode cX10_doesPart 44 = .ok (.goto (-38), 3) := by decide +kernel
theorem dX10_doesPart_47 : decode cX10_doesPart 47 = .ok (.aload_n 0, 1) := by decide +kernel
theorem dX10_doesPart_48 : decode cX10_doesPart 48 = .ok (.getfield 41, 3) := by decide +kernel
theorem dX10_doesPart_51 : decode cX10_doesPart 51 = .ok (.iload_n 1, 1) := by decide +kernel
theorem dX10_doesPart_52 : decode cX10_doesPart 52 = .ok (.iconst 1, 1) := by decide +kernel
theorem dX10_doesPart_53 : decode cX10_doesPart 53 = .ok (.isub, 1) := by decide +kernel
theorem dX10_doesPart_54 : decode cX10_doesPart 54 = .ok (.bipush 7, 2) := by decide +kernel
theorem dX10_doesPart_56 : decode cX10_doesPart 56 = .ok (.iastore, 1) := by decide +kernel
theorem dX10_doesPart_57 : decode cX10_doesPart 57 = .ok (.aload_n 0, 1) := by decide +kernel
theorem dX10_doesPart_58 : decode cX10_doesPart 58 = .ok (.bipush 7, 2) := by decide +kernel
theorem dX10_doesPart_60 : decode cX10_doesPart 60 = .ok (.invokevirtual 216, 3) := by decide +kernel
theorem dX10_doesPart_63 : decode cX10_doesPart 63 = .ok (.aload_n 0, 1) := by decide +kernel
theorem dX10_doesPart_64 : decode cX10_doesPart 64 = .ok (.getfield 38, 3) := by decide +kernel
theorem dX10_doesPart_67 : decode cX10_doesPart 67 = .ok (.iconst 2, 1) := by decide +kernel
theorem dX10_doesPart_68 : decode cX10_doesPart 68 = .ok (.iaload, 1) := by decide +kernel
theorem dX10_doesPart_69 : decode cX10_doesPart 69 = .ok (.aload_n 0, 1) := by decide +kernel
theorem dX10_doesPart_70 : decode cX10_doesPart 70 = .ok (.getfield 189, 3) := by decide +kernel
theorem dX10_doesPart_73 : decode cX10_doesPart 73 = .ok (.if_icmp .eq 7, 3) := by decide +kernel
theorem dX10_doesPart_76 : decode cX10_doesPart 76 = .ok (.iconst 1, 1) := by decide +kernel
theorem dX10_doesPart_77 : decode cX10_doesPart 77 = .ok (.goto 4, 3) := by decide +kernel
theorem dX10_doesPart_80 : decode cX10_doesPart 80 = .ok (.iconst 0, 1) := by decide +kernel
theorem dX10_doesPart_81 : decode cX10_doesPart 81 = .ok (.ireturn, 1) := by decide +kernel
theorem dX10_partsBy_0 : decode cX10_partsBy 0 = .ok (.iconst 1, 1) := by decide +kernel
theorem dX10_partsBy_1 : decode cX10_partsBy 1 = .ok (.istore_n 2, 1) := by decide +kernel
theorem dX10_partsBy_2 : decode cX10_partsBy 2 = .ok (.iload_n 2, 1) := by decide +kernel
theorem dX10_partsBy_3 : decode cX10_partsBy 3 = .ok (.iload_n 1, 1) := by decide +kernel
theorem dX10_partsBy_4 : decode cX10_partsBy 4 = .ok (.if_icmp .gt 39, 3) := by decide +kernel
theorem dX10_partsBy_7 : decode cX10_partsBy 7 = .ok (.iconst 0, 1) := by decide +kernel
theorem dX10_partsBy_8 : decode cX10_partsBy 8 = .ok (.istore_n 3, 1) := by decide +kernel
theorem dX10_partsBy_9 : decode cX10_partsBy 9 = .ok (.iload_n 3, 1) := by decide +kernel
theorem dX10_partsBy_10 : decode cX10_partsBy 10 = .ok (.iconst 1, 1) := by decide +kernel
theorem dX10_partsBy_11 : decode cX10_partsBy 11 = .ok (.iconst 3, 1) := by decide +kernel
theorem dX10_partsBy_12 : decode cX10_partsBy 12 = .ok (.iload_n 2, 1) := by decide +kernel
theorem dX10_partsBy_13 : decode cX10_partsBy 13 = .ok (.iconst 1, 1) := by decide +kernel
theorem dX10_partsBy_14 : decode cX10_partsBy 14 = .ok (.isub, 1) := by decide +kernel
theorem dX10_partsBy_15 : decode cX10_partsBy 15 = .ok (.imul, 1) := by decide +kernel
theorem dX10_partsBy_16 : decode cX10_partsBy 16 = .ok (.ishl, 1) := by decide +kernel
theorem dX10_partsBy_17 : decode cX10_partsBy 17 = .ok (.if_icmp .ge 20, 3) := by decide +kernel
theorem dX10_partsBy_20 : decode cX10_partsBy 20 = .ok (.aload_n 0, 1) := by decide +kernel
theorem dX10_partsBy_21 : decode cX10_partsBy 21 = .ok (.iload_n 2, 1) := by decide +kernel
theorem dX10_partsBy_22 : decode cX10_partsBy 22 = .ok (.iload_n 3, 1) := by decide +kernel
theorem dX10_partsBy_23 : decode cX10_partsBy 23 = .ok (.invokevirtual 219, 3) := by decide +kernel
theorem dX10_partsBy_26 : decode cX10_partsBy 26 = .ok (.ifCond .eq 5, 3) := by decide +kernel
theorem dX10_partsBy_29 : decode cX10_partsBy 29 = .ok (.iload_n 2, 1) := by decide +kernel
theorem dX10_partsBy_30 : decode cX10_partsBy 30 = .ok (.ireturn, 1) := by decide +kernel
theorem dX10_partsBy_31 : decode cX10_partsBy 31 = .ok (.iinc 3 1, 3) := by decide +kernel
theorem dX10_partsBy_34 : decode cX10_partsBy 34 = .ok (.goto (-25), 3) := by decide +kernel
theorem dX10_partsBy_37 : decode cX10_partsBy 37 = .ok (.iinc 2 1, 3) := by decide +kernel
theorem dX10_partsBy_40 : decode cX10_partsBy 40 = .ok (.goto (-38), 3) := by decide +kernel
theorem dX10_partsBy_43 : decode cX10_partsBy 43 = .ok (.iconst (-1), 1) := by decide +kernel
theorem dX10_partsBy_44 : decode cX10_partsBy 44 = .ok (.ireturn, 1) := by decide +kernel
theorem dX10_parting_0 : decode cX10_parting 0 = .ok (.iload_n 1, 1) := by decide +kernel
theorem dX10_parting_1 : decode cX10_parting 1 = .ok (.iload_n 2, 1) := by decide +kernel
theorem dX10_parting_2 : decode cX10_parting 2 = .ok (.iload_n 3, 1) := by decide +kernel
theorem dX10_parting_3 : decode cX10_parting 3 = .ok (.invokestatic 197, 3) := by decide +kernel
theorem dX10_parting_6 : decode cX10_parting 6 = .ok (.ifCond .ne 6, 3) := by decide +kernel
theorem dX10_parting_9 : decode cX10_parting 9 = .ok (.bipush (-2), 2) := by decide +kernel
theorem dX10_parting_11 : decode cX10_parting 11 = .ok (.ireturn, 1) := by decide +kernel
theorem dX10_parting_12 : decode cX10_parting 12 = .ok (.aload_n 0, 1) := by decide +kernel
theorem dX10_parting_13 : decode cX10_parting 13 = .ok (.iload_n 1, 1) := by decide +kernel
theorem dX10_parting_14 : decode cX10_parting 14 = .ok (.iload_n 2, 1) := by decide +kernel
theorem dX10_parting_15 : decode cX10_parting 15 = .ok (.iload_n 3, 1) := by decide +kernel
theorem dX10_parting_16 : decode cX10_parting 16 = .ok (.invokevirtual 209, 3) := by decide +kernel
theorem dX10_parting_19 : decode cX10_parting 19 = .ok (.aload_n 0, 1) := by decide +kernel
theorem dX10_parting_20 : decode cX10_parting 20 = .ok (.iconst 5, 1) := by decide +kernel
theorem dX10_parting_21 : decode cX10_parting 21 = .ok (.invokevirtual 223, 3) := by decide +kernel
theorem dX10_parting_24 : decode cX10_parting 24 = .ok (.ireturn, 1) := by decide +kernel
theorem dX10_event_0 : decode cX10_event 0 = .ok (.iload_n 1, 1) := by decide +kernel
theorem dX10_event_1 : decode cX10_event 1 = .ok (.iload_n 2, 1) := by decide +kernel
theorem dX10_event_2 : decode cX10_event 2 = .ok (.iload_n 3, 1) := by decide +kernel
theorem dX10_event_3 : decode cX10_event 3 = .ok (.invokestatic 197, 3) := by decide +kernel
theorem dX10_event_6 : decode cX10_event 6 = .ok (.ifCond .eq 8, 3) := by decide +kernel
theorem dX10_event_9 : decode cX10_event 9 = .ok (.iload 4, 2) := by decide +kernel
theorem dX10_event_11 : decode cX10_event 11 = .ok (.ifCond .ge 6, 3) := by decide +kernel
theorem dX10_event_14 : decode cX10_event 14 = .ok (.bipush (-2), 2) := by decide +kernel
theorem dX10_event_16 : decode cX10_event 16 = .ok (.ireturn, 1) := by decide +kernel
theorem dX10_event_17 : decode cX10_event 17 = .ok (.aload_n 0, 1) := by decide +kernel
theorem dX10_event_18 : decode cX10_event 18 = .ok (.iload_n 1, 1) := by decide +kernel
theorem dX10_event_19 : decode cX10_event 19 = .ok (.iload_n 2, 1) := by decide +kernel
theorem dX10_event_20 : decode cX10_event 20 = .ok (.iload_n 3, 1) := by decide +kernel
theorem dX10_event_21 : decode cX10_event 21 = .ok (.invokevirtual 209, 3) := by decide +kernel
theorem dX10_event_24 : decode cX10_event 24 = .ok (.aload_n 0, 1) := by decide +kernel
theorem dX10_event_25 : decode cX10_event 25 = .ok (.iconst 5, 1) := by decide +kernel
theorem dX10_event_26 : decode cX10_event 26 = .ok (.invokevirtual 223, 3) := by decide +kernel
theorem dX10_event_29 : decode cX10_event 29 = .ok (.istore 5, 2) := by decide +kernel
theorem dX10_event_31 : decode cX10_event 31 = .ok (.iload 4, 2) := by decide +kernel
theorem dX10_event_33 : decode cX10_event 33 = .ok (.iload 5, 2) := by decide +kernel
theorem dX10_event_35 : decode cX10_event 35 = .ok (.if_icmp .ge 13, 3) := by decide +kernel
theorem dX10_event_38 : decode cX10_event 38 = .ok (.aload_n 0, 1) := by decide +kernel
theorem dX10_event_39 : decode cX10_event 39 = .ok (.getfield 41, 3) := by decide +kernel
theorem dX10_event_42 : decode cX10_event 42 = .ok (.iload 4, 2) := by decide +kernel
theorem dX10_event_44 : decode cX10_event 44 = .ok (.iaload, 1) := by decide +kernel
theorem dX10_event_45 : decode cX10_event 45 = .ok (.goto 4, 3) := by decide +kernel
theorem dX10_event_48 : decode cX10_event 48 = .ok (.iconst (-1), 1) := by decide +kernel
theorem dX10_event_49 : decode cX10_event 49 = .ok (.ireturn, 1) := by decide +kernel
theorem dX10_mended_0 : decode cX10_mended 0 = .ok (.iload_n 1, 1) := by decide +kernel
theorem dX10_mended_1 : decode cX10_mended 1 = .ok (.invokestatic 121, 3) := by decide +kernel
theorem dX10_mended_4 : decode cX10_mended 4 = .ok (.ifCond .eq 10, 3) := by decide +kernel
theorem dX10_mended_7 : decode cX10_mended 7 = .ok (.iload_n 2, 1) := by decide +kernel
theorem dX10_mended_8 : decode cX10_mended 8 = .ok (.invokestatic 121, 3) := by decide +kernel
theorem dX10_mended_11 : decode cX10_mended 11 = .ok (.ifCond .ne 6, 3) := by decide +kernel
theorem dX10_mended_14 : decode cX10_mended 14 = .ok (.bipush (-2), 2) := by decide +kernel
theorem dX10_mended_16 : decode cX10_mended 16 = .ok (.ireturn, 1) := by decide +kernel
theorem dX10_mended_17 : decode cX10_mended 17 = .ok (.aload_n 0, 1) := by decide +kernel
theorem dX10_mended_18 : decode cX10_mended 18 = .ok (.iload_n 1, 1) := by decide +kernel
theorem dX10_mended_19 : decode cX10_mended 19 = .ok (.iload_n 2, 1) := by decide +kernel
theorem dX10_mended_20 : decode cX10_mended 20 = .ok (.invokevirtual 174, 3) := by decide +kernel
theorem dX10_mended_23 : decode cX10_mended 23 = .ok (.istore_n 3, 1) := by decide +kernel
theorem dX10_mended_24 : decode cX10_mended 24 = .ok (.iload_n 3, 1) := by decide +kernel
theorem dX10_mended_25 : decode cX10_mended 25 = .ok (.invokestatic 226, 3) := by decide +kernel
theorem dX10_mended_28 : decode cX10_mended 28 = .ok (.bipush 8, 2) := by decide +kernel
theorem dX10_mended_30 : decode cX10_mended 30 = .ok (.if_icmp .le 6, 3) := by decide +kernel
theorem dX10_mended_33 : decode cX10_mended 33 = .ok (.bipush (-4), 2) := by decide +kernel
theorem dX10_mended_35 : decode cX10_mended 35 = .ok (.ireturn, 1) := by decide +kernel
theorem dX10_mended_36 : decode cX10_mended 36 = .ok (.iconst (-1), 1) := by decide +kernel
theorem dX10_mended_37 : decode cX10_mended 37 = .ok (.istore 4, 2) := by decide +kernel
theorem dX10_mended_39 : decode cX10_mended 39 = .ok (.iconst 0, 1) := by decide +kernel
theorem dX10_mended_40 : decode cX10_mended 40 = .ok (.istore 5, 2) := by decide +kernel
theorem dX10_mended_42 : decode cX10_mended 42 = .ok (.iconst 1, 1) := by decide +kernel
theorem dX10_mended_43 : decode cX10_mended 43 = .ok (.istore 6, 2) := by decide +kernel
theorem dX10_mended_45 : decode cX10_mended 45 = .ok (.iload 6, 2) := by decide +kernel
theorem dX10_mended_47 : decode cX10_mended 47 = .ok (.ifCond .eq 71, 3) := by decide +kernel
theorem dX10_mended_50 : decode cX10_mended 50 = .ok (.iload 4, 2) := by decide +kernel
theorem dX10_mended_52 : decode cX10_mended 52 = .ok (.iconst (-1), 1) := by decide +kernel
theorem dX10_mended_53 : decode cX10_mended 53 = .ok (.if_icmp .eq 16, 3) := by decide +kernel
theorem dX10_mended_56 : decode cX10_mended 56 = .ok (.iload 5, 2) := by decide +kernel
theorem dX10_mended_58 : decode cX10_mended 58 = .ok (.invokestatic 226, 3) := by decide +kernel
theorem dX10_mended_61 : decode cX10_mended 61 = .ok (.iload 4, 2) := by decide +kernel
theorem dX10_mended_63 : decode cX10_mended 63 = .ok (.invokestatic 226, 3) := by decide +kernel
theorem dX10_mended_66 : decode cX10_mended 66 = .ok (.if_icmp .ge 29, 3) := by decide +kernel
theorem dX10_mended_69 : decode cX10_mended 69 = .ok (.aload_n 0, 1) := by decide +kernel
theorem dX10_mended_70 : decode cX10_mended 70 = .ok (.iload_n 1, 1) := by decide +kernel
theorem dX10_mended_71 : decode cX10_mended 71 = .ok (.iload_n 2, 1) := by decide +kernel
theorem dX10_mended_72 : decode cX10_mended 72 = .ok (.iload 5, 2) := by decide +kernel
theorem dX10_mended_74 : decode cX10_mended 74 = .ok (.invokevirtual 209, 3) := by decide +kernel
theorem dX10_mended_77 : decode cX10_mended 77 = .ok (.aload_n 0, 1) := by decide +kernel
theorem dX10_mended_78 : decode cX10_mended 78 = .ok (.iconst 4, 1) := by decide +kernel
theorem dX10_mended_79 : decode cX10_mended 79 = .ok (.invokevirtual 223, 3) := by decide +kernel
theorem dX10_mended_82 : decode cX10_mended 82 = .ok (.iconst (-1), 1) := by decide +kernel
theorem dX10_mended_83 : decode cX10_mended 83 = .ok (.if_icmp .ne 8, 3) := by decide +kernel
theorem dX10_mended_86 : decode cX10_mended 86 = .ok (.iload 5, 2) := by decide +kernel
theorem dX10_mended_88 : decode cX10_mended 88 = .ok (.goto 5, 3) := by decide +kernel
theorem dX10_mended_91 : decode cX10_mended 91 = .ok (.iload 4, 2) := by decide +kernel
theorem dX10_mended_93 : decode cX10_mended 93 = .ok (.istore 4, 2) := by decide +kernel
theorem dX10_mended_95 : decode cX10_mended 95 = .ok (.iload 5, 2) := by decide +kernel
theorem dX10_mended_97 : decode cX10_mended 97 = .ok (.iload_n 3, 1) := by decide +kernel
theorem dX10_mended_98 : decode cX10_mended 98 = .ok (.isub, 1) := by decide +kernel
theorem dX10_mended_99 : decode cX10_mended 99 = .ok (.iload_n 3, 1) := by decide +kernel
theorem dX10_mended_100 : decode cX10_mended 100 = .ok (.iand, 1) := by decide +kernel
theorem dX10_mended_101 : decode cX10_mended 101 = .ok (.istore 5, 2) := by decide +kernel
theorem dX10_mended_103 : decode cX10_mended 103 = .ok (.iload 5, 2) := by decide +kernel
theorem dX10_mended_105 : decode cX10_mended 105 = .ok (.ifCond .eq 7, 3) := by decide +kernel
theorem dX10_mended_108 : decode cX10_mended 108 = .ok (.iconst 1, 1) := by decide +kernel
theorem dX10_mended_109 : decode cX10_mended 109 = .ok (.goto 4, 3) := by decide +kernel
theorem dX10_mended_112 : decode cX10_mended 112 = .ok (.iconst 0, 1) := by decide +kernel
theorem dX10_mended_113 : decode cX10_mended 113 = .ok (.istore 6, 2) := by decide +kernel
theorem dX10_mended_115 : decode cX10_mended 115 = .ok (.goto (-70), 3) := by decide +kernel
theorem dX10_mended_118 : decode cX10_mended 118 = .ok (.iload 4, 2) := by decide +kernel
theorem dX10_mended_120 : decode cX10_mended 120 = .ok (.ireturn, 1) := by decide +kernel
theorem dX10_isCounter_0 : decode cX10_isCounter 0 = .ok (.iload_n 1, 1) := by decide +kernel
theorem dX10_isCounter_1 : decode cX10_isCounter 1 = .ok (.iconst 0, 1) := by decide +kernel
theorem dX10_isCounter_2 : decode cX10_isCounter 2 = .ok (.aload_n 0, 1) := by decide +kernel
theorem dX10_isCounter_3 : decode cX10_isCounter 3 = .ok (.getfield 229, 3) := by decide +kernel
theorem dX10_isCounter_6 : decode cX10_isCounter 6 = .ok (.iconst 1, 1) := by decide +kernel
theorem dX10_isCounter_7 : decode cX10_isCounter 7 = .ok (.isub, 1) := by decide +kernel
theorem dX10_isCounter_8 : decode cX10_isCounter 8 = .ok (.invokestatic 117, 3) := by decide +kernel
theorem dX10_isCounter_11 : decode cX10_isCounter 11 = .ok (.ireturn, 1) := by decide +kernel
theorem dX10_counter_0 : decode cX10_counter 0 = .ok (.iload_n 1, 1) := by decide +kernel
theorem dX10_counter_1 : decode cX10_counter 1 = .ok (.invokestatic 121, 3) := by decide +kernel
theorem dX10_counter_4 : decode cX10_counter 4 = .ok (.ifCond .ne 6, 3) := by decide +kernel
theorem dX10_counter_7 : decode cX10_counter 7 = .ok (.bipush (-2), 2) := by decide +kernel
theorem dX10_counter_9 : decode cX10_counter 9 = .ok (.ireturn, 1) := by decide +kernel
theorem dX10_counter_10 : decode cX10_counter 10 = .ok (.aload_n 0, 1) := by decide +kernel
theorem dX10_counter_11 : decode cX10_counter 11 = .ok (.getfield 229, 3) := by decide +kernel
theorem dX10_counter_14 : decode cX10_counter 14 = .ok (.bipush 12, 2) := by decide +kernel
theorem dX10_counter_16 : decode cX10_counter 16 = .ok (.if_icmp .ne 6, 3) := by decide +kernel
theorem dX10_counter_19 : decode cX10_counter 19 = .ok (.bipush (-4), 2) := by decide +kernel
theorem dX10_counter_21 : decode cX10_counter 21 = .ok (.ireturn, 1) := by decide +kernel
theorem dX10_counter_22 : decode cX10_counter 22 = .ok (.aload_n 0, 1) := by decide +kernel
theorem dX10_counter_23 : decode cX10_counter 23 = .ok (.getfield 44, 3) := by decide +kernel
theorem dX10_counter_26 : decode cX10_counter 26 = .ok (.aload_n 0, 1) := by decide +kernel
theorem dX10_counter_27 : decode cX10_counter 27 = .ok (.getfield 229, 3) := by decide +kernel
theorem dX10_counter_30 : decode cX10_counter 30 = .ok (.iload_n 1, 1) := by decide +kernel
theorem dX10_counter_31 : decode cX10_counter 31 = .ok (.iastore, 1) := by decide +kernel
theorem dX10_counter_32 : decode cX10_counter 32 = .ok (.aload_n 0, 1) := by decide +kernel
theorem dX10_counter_33 : decode cX10_counter 33 = .ok (.getfield 47, 3) := by decide +kernel
theorem dX10_counter_36 : decode cX10_counter 36 = .ok (.aload_n 0, 1) := by decide +kernel
theorem dX10_counter_37 : decode cX10_counter 37 = .ok (.getfield 229, 3) := by decide +kernel
theorem dX10_counter_40 : decode cX10_counter 40 = .ok (.iconst 0, 1) := by decide +kernel
theorem dX10_counter_41 : decode cX10_counter 41 = .ok (.iastore, 1) := by decide +kernel
theorem dX10_counter_42 : decode cX10_counter 42 = .ok (.aload_n 0, 1) := by decide +kernel
theorem dX10_counter_43 : decode cX10_counter 43 = .ok (.getfield 53, 3) := by decide +kernel
theorem dX10_counter_46 : decode cX10_counter 46 = .ok (.aload_n 0, 1) := by decide +kernel
theorem dX10_counter_47 : decode cX10_counter 47 = .ok (.getfield 229, 3) := by decide +kernel
theorem dX10_counter_50 : decode cX10_counter 50 = .ok (.iconst 0, 1) := by decide +kernel
theorem dX10_counter_51 : decode cX10_counter 51 = .ok (.iastore, 1) := by decide +kernel
theorem dX10_counter_52 : decode cX10_counter 52 = .ok (.aload_n 0, 1) := by decide +kernel
theorem dX10_counter_53 : decode cX10_counter 53 = .ok (.getfield 56, 3) := by decide +kernel
theorem dX10_counter_56 : decode cX10_counter 56 = .ok (.aload_n 0, 1) := by decide +kernel
theorem dX10_counter_57 : decode cX10_counter 57 = .ok (.getfield 229, 3) := by decide +kernel
theorem dX10_counter_60 : decode cX10_counter 60 = .ok (.iconst 0, 1) := by decide +kernel
theorem dX10_counter_61 : decode cX10_counter 61 = .ok (.iastore, 1) := by decide +kernel
theorem dX10_counter_62 : decode cX10_counter 62 = .ok (.aload_n 0, 1) := by decide +kernel
theorem dX10_counter_63 : decode cX10_counter 63 = .ok (.getfield 59, 3) := by decide +kernel
theorem dX10_counter_66 : decode cX10_counter 66 = .ok (.aload_n 0, 1) := by decide +kernel
theorem dX10_counter_67 : decode cX10_counter 67 = .ok (.getfield 229, 3) := by decide +kernel
theorem dX10_counter_70 : decode cX10_counter 70 = .ok (.bipush 10, 2) := by decide +kernel
theorem dX10_counter_72 : decode cX10_counter 72 = .ok (.iastore, 1) := by decide +kernel
theorem dX10_counter_73 : decode cX10_counter 73 = .ok (.aload_n 0, 1) := by decide +kernel
theorem dX10_counter_74 : decode cX10_counter 74 = .ok (.getfield 62, 3) := by decide +kernel
theorem dX10_counter_77 : decode cX10_counter 77 = .ok (.aload_n 0, 1) := by decide +kernel
theorem dX10_counter_78 : decode cX10_counter 78 = .ok (.getfield 229, 3) := by decide +kernel
theorem dX10_counter_81 : decode cX10_counter 81 = .ok (.iconst 5, 1) := by decide +kernel
theorem dX10_counter_82 : decode cX10_counter 82 = .ok (.iastore, 1) := by decide +kernel
theorem dX10_counter_83 : decode cX10_counter 83 = .ok (.aload_n 0, 1) := by decide +kernel
theorem dX10_counter_84 : decode cX10_counter 84 = .ok (.getfield 65, 3) := by decide +kernel
theorem dX10_counter_87 : decode cX10_counter 87 = .ok (.aload_n 0, 1) := by decide +kernel
theorem dX10_counter_88 : decode cX10_counter 88 = .ok (.getfield 229, 3) := by decide +kernel
theorem dX10_counter_91 : decode cX10_counter 91 = .ok (.iconst 1, 1) := by decide +kernel
theorem dX10_counter_92 : decode cX10_counter 92 = .ok (.iastore, 1) := by decide +kernel
theorem dX10_counter_93 : decode cX10_counter 93 = .ok (.aload_n 0, 1) := by decide +kernel
theorem dX10_counter_94 : decode cX10_counter 94 = .ok (.dup, 1) := by decide +kernel
theorem dX10_counter_95 : decode cX10_counter 95 = .ok (.getfield 229, 3) := by decide +kernel
theorem dX10_counter_98 : decode cX10_counter 98 = .ok (.iconst 1, 1) := by decide +kernel
theorem dX10_counter_99 : decode cX10_counter 99 = .ok (.iadd, 1) := by decide +kernel
theorem dX10_counter_100 : decode cX10_counter 100 = .ok (.putfield 229, 3) := by decide +kernel
theorem dX10_counter_103 : decode cX10_counter 103 = .ok (.aload_n 0, 1) := by decide +kernel
theorem dX10_counter_104 : decode cX10_counter 104 = .ok (.getfield 229, 3) := by decide +kernel
theorem dX10_counter_107 : decode cX10_counter 107 = .ok (.iconst 1, 1) := by decide +kernel
theorem dX10_counter_108 : decode cX10_counter 108 = .ok (.isub, 1) := by decide +kernel
theorem dX10_counter_109 : decode cX10_counter 109 = .ok (.ireturn, 1) := by decide +kernel
theorem dX10_log_0 : decode cX10_log 0 = .ok (.aload_n 0, 1) := by decide +kernel
theorem dX10_log_1 : decode cX10_log 1 = .ok (.iload_n 1, 1) := by decide +kernel
theorem dX10_log_2 : decode cX10_log 2 = .ok (.invokevirtual 232, 3) := by decide +kernel
theorem dX10_log_5 : decode cX10_log 5 = .ok (.ifCond .eq 20, 3) := by decide +kernel
theorem dX10_log_8 : decode cX10_log 8 = .ok (.iload_n 2, 1) := by decide +kernel
theorem dX10_log_9 : decode cX10_log 9 = .ok (.invokestatic 200, 3) := by decide +kernel
theorem dX10_log_12 : decode cX10_log 12 = .ok (.ifCond .eq 13, 3) := by decide +kernel
theorem dX10_log_15 : decode cX10_log 15 = .ok (.iload_n 3, 1) := by decide +kernel
theorem dX10_log_16 : decode cX10_log 16 = .ok (.iconst 0, 1) := by decide +kernel
theorem dX10_log_17 : decode cX10_log 17 = .ok (.bipush 12, 2) := by decide +kernel
theorem dX10_log_19 : decode cX10_log 19 = .ok (.invokestatic 117, 3) := by decide +kernel
theorem dX10_log_22 : decode cX10_log 22 = .ok (.ifCond .ne 6, 3) := by decide +kernel
theorem dX10_log_25 : decode cX10_log 25 = .ok (.bipush (-2), 2) := by decide +kernel
theorem dX10_log_27 : decode cX10_log 27 = .ok (.ireturn, 1) := by decide +kernel
theorem dX10_log_28 : decode cX10_log 28 = .ok (.aload_n 0, 1) := by decide +kernel
theorem dX10_log_29 : decode cX10_log 29 = .ok (.getfield 102, 3) := by decide +kernel
theorem dX10_log_32 : decode cX10_log 32 = .ok (.iload_n 2, 1) := by decide +kernel
theorem dX10_log_33 : decode cX10_log 33 = .ok (.baload, 1) := by decide +kernel
theorem dX10_log_34 : decode cX10_log 34 = .ok (.ifCond .ne 9, 3) := by decide +kernel
theorem dX10_log_37 : decode cX10_log 37 = .ok (.aload_n 0, 1) := by decide +kernel
theorem dX10_log_38 : decode cX10_log 38 = .ok (.iconst 1, 1) := by decide +kernel
theorem dX10_log_39 : decode cX10_log 39 = .ok (.invokevirtual 235, 3) := by decide +kernel
theorem dX10_log_42 : decode cX10_log 42 = .ok (.ireturn, 1) := by decide +kernel
theorem dX10_log_43 : decode cX10_log 43 = .ok (.aload_n 0, 1) := by decide +kernel
theorem dX10_log_44 : decode cX10_log 44 = .ok (.getfield 108, 3) := by decide +kernel
theorem dX10_log_47 : decode cX10_log 47 = .ok (.iload_n 2, 1) := by decide +kernel
theorem dX10_log_48 : decode cX10_log 48 = .ok (.iaload, 1) := by decide +kernel
theorem dX10_log_49 : decode cX10_log 49 = .ok (.iload_n 3, 1) := by decide +kernel
theorem dX10_log_50 : decode cX10_log 50 = .ok (.if_icmp .ge 9, 3) := by decide +kernel
theorem dX10_log_53 : decode cX10_log 53 = .ok (.aload_n 0, 1) := by decide +kernel
theorem dX10_log_54 : decode cX10_log 54 = .ok (.iconst 2, 1) := by decide +kernel
theorem dX10_log_55 : decode cX10_log 55 = .ok (.invokevirtual 235, 3) := by decide +kernel
theorem dX10_log_58 : decode cX10_log 58 = .ok (.ireturn, 1) := by decide +kernel
theorem dX10_log_59 : decode cX10_log 59 = .ok (.iconst 0, 1) := by decide +kernel
theorem dX10_log_60 : decode cX10_log 60 = .ok (.istore 4, 2) := by decide +kernel
theorem dX10_log_62 : decode cX10_log 62 = .ok (.iconst 0, 1) := by decide +kernel
theorem dX10_log_63 : decode cX10_log 63 = .ok (.istore 5, 2) := by decide +kernel
theorem dX10_log_65 : decode cX10_log 65 = .ok (.iload 5, 2) := by decide +kernel
theorem dX10_log_67 : decode cX10_log 67 = .ok (.iload_n 3, 1) := by decide +kernel
theorem dX10_log_68 : decode cX10_log 68 = .ok (.if_icmp .ge 37, 3) := by decide +kernel
theorem dX10_log_71 : decode cX10_log 71 = .ok (.iload 4, 2) := by decide +kernel
theorem dX10_log_73 : decode cX10_log 73 = .ok (.aload_n 0, 1) := by decide +kernel
theorem dX10_log_74 : decode cX10_log 74 = .ok (.getfield 111, 3) := by decide +kernel
theorem dX10_log_77 : decode cX10_log 77 = .ok (.bipush 40, 2) := by decide +kernel
theorem dX10_log_79 : decode cX10_log 79 = .ok (.iload_n 2, 1) := by decide +kernel
theorem dX10_log_80 : decode cX10_log 80 = .ok (.imul, 1) := by decide +kernel
theorem dX10_log_81 : decode cX10_log 81 = .ok (.iload 5, 2) := by decide +kernel
theorem dX10_log_83 : decode cX10_log 83 = .ok (.iadd, 1) := by decide +kernel
theorem dX10_log_84 : decode cX10_log 84 = .ok (.iaload, 1) := by decide +kernel
theorem dX10_log_85 : decode cX10_log 85 = .ok (.invokestatic 206, 3) := by decide +kernel
theorem dX10_log_88 : decode cX10_log 88 = .ok (.ifCond .eq 7, 3) := by decide +kernel
theorem dX10_log_91 : decode cX10_log 91 = .ok (.iconst 0, 1) := by decide +kernel
theorem dX10_log_92 : decode cX10_log 92 = .ok (.goto 4, 3) := by decide +kernel
theorem dX10_log_95 : decode cX10_log 95 = .ok (.iconst 1, 1) := by decide +kernel
theorem dX10_log_96 : decode cX10_log 96 = .ok (.iadd, 1) := by decide +kernel
theorem dX10_log_97 : decode cX10_log 97 = .ok (.istore 4, 2) := by decide +kernel
theorem dX10_log_99 : decode cX10_log 99 = .ok (.iinc 5 1, 3) := by decide +kernel
theorem dX10_log_102 : decode cX10_log 102 = .ok (.goto (-37), 3) := by decide +kernel
theorem dX10_log_105 : decode cX10_log 105 = .ok (.iload 4, 2) := by decide +kernel
theorem dX10_log_107 : decode cX10_log 107 = .ok (.iconst 3, 1) := by decide +kernel
theorem dX10_log_108 : decode cX10_log 108 = .ok (.if_icmp .le 6, 3) := by decide +kernel
theorem dX10_log_111 : decode cX10_log 111 = .ok (.bipush (-3), 2) := by decide +kernel
theorem dX10_log_113 : decode cX10_log 113 = .ok (.ireturn, 1) := by decide +kernel
theorem dX10_log_114 : decode cX10_log 114 = .ok (.aload_n 0, 1) := by decide +kernel
theorem dX10_log_115 : decode cX10_log 115 = .ok (.getfield 47, 3) := by decide +kernel
theorem dX10_log_118 : decode cX10_log 118 = .ok (.iload_n 1, 1) := by decide +kernel
theorem dX10_log_119 : decode cX10_log 119 = .ok (.iaload, 1) := by decide +kernel
theorem dX10_log_120 : decode cX10_log 120 = .ok (.istore 5, 2) := by decide +kernel
theorem dX10_log_122 : decode cX10_log 122 = .ok (.iconst 0, 1) := by decide +kernel
theorem dX10_log_123 : decode cX10_log 123 = .ok (.istore 6, 2) := by decide +kernel
theorem dX10_log_125 : decode cX10_log 125 = .ok (.iload 6, 2) := by decide +kernel
theorem dX10_log_127 : decode cX10_log 127 = .ok (.iload_n 3, 1) := by decide +kernel
theorem dX10_log_128 : decode cX10_log 128 = .ok (.if_icmp .ge 49, 3) := by decide +kernel
theorem dX10_log_131 : decode cX10_log 131 = .ok (.aload_n 0, 1) := by decide +kernel
theorem dX10_log_132 : decode cX10_log 132 = .ok (.getfield 111, 3) := by decide +kernel
theorem dX10_log_135 : decode cX10_log 135 = .ok (.bipush 40, 2) := by decide +kernel
theorem dX10_log_137 : decode cX10_log 137 = .ok (.iload_n 2, 1) := by decide +kernel
theorem dX10_log_138 : decode cX10_log 138 = .ok (.imul, 1) := by decide +kernel
theorem dX10_log_139 : decode cX10_log 139 = .ok (.iload 6, 2) := by decide +kernel
theorem dX10_log_141 : decode cX10_log 141 = .ok (.iadd, 1) := by decide +kernel
theorem dX10_log_142 : decode cX10_log 142 = .ok (.iaload, 1) := by decide +kernel
theorem dX10_log_143 : decode cX10_log 143 = .ok (.istore 7, 2) := by decide +kernel
theorem dX10_log_145 : decode cX10_log 145 = .ok (.aload_n 0, 1) := by decide +kernel
theorem dX10_log_146 : decode cX10_log 146 = .ok (.getfield 50, 3) := by decide +kernel
theorem dX10_log_149 : decode cX10_log 149 = .ok (.bipush 12, 2) := by decide +kernel
theorem dX10_log_151 : decode cX10_log 151 = .ok (.iload_n 1, 1) := by decide +kernel
theorem dX10_log_152 : decode cX10_log 152 = .ok (.imul, 1) := by decide +kernel
theorem dX10_log_153 : decode cX10_log 153 = .ok (.iload 6, 2) := by decide +kernel
theorem dX10_log_155 : decode cX10_log 155 = .ok (.iadd, 1) := by decide +kernel
theorem dX10_log_156 : decode cX10_log 156 = .ok (.iload 7, 2) := by decide +kernel
theorem dX10_log_158 : decode cX10_log 158 = .ok (.invokestatic 206, 3) := by decide +kernel
theorem dX10_log_161 : decode cX10_log 161 = .ok (.ifCond .eq 8, 3) := by decide +kernel
theorem dX10_log_164 : decode cX10_log 164 = .ok (.iload 7, 2) := by decide +kernel
theorem dX10_log_166 : decode cX10_log 166 = .ok (.goto 4, 3) := by decide +kernel
theorem dX10_log_169 : decode cX10_log 169 = .ok (.iconst (-1), 1) := by decide +kernel
theorem dX10_log_170 : decode cX10_log 170 = .ok (.iastore, 1) := by decide +kernel
theorem dX10_log_171 : decode cX10_log 171 = .ok (.iinc 6 1, 3) := by decide +kernel
theorem dX10_log_174 : decode cX10_log 174 = .ok (.goto (-49), 3) := by decide +kernel
theorem dX10_log_177 : decode cX10_log 177 = .ok (.aload_n 0, 1) := by decide +kernel
theorem dX10_log_178 : decode cX10_log 178 = .ok (.getfield 47, 3) := by decide +kernel
theorem dX10_log_181 : decode cX10_log 181 = .ok (.iload_n 1, 1) := by decide +kernel
theorem dX10_log_182 : decode cX10_log 182 = .ok (.iload_n 3, 1) := by decide +kernel
theorem dX10_log_183 : decode cX10_log 183 = .ok (.iastore, 1) := by decide +kernel
theorem dX10_log_184 : decode cX10_log 184 = .ok (.iload 5, 2) := by decide +kernel
theorem dX10_log_186 : decode cX10_log 186 = .ok (.ireturn, 1) := by decide +kernel
theorem dX10_claim_0 : decode cX10_claim 0 = .ok (.aload_n 0, 1) := by decide +kernel
theorem dX10_claim_1 : decode cX10_claim 1 = .ok (.iload_n 1, 1) := by decide +kernel
theorem dX10_claim_2 : decode cX10_claim 2 = .ok (.invokevirtual 232, 3) := by decide +kernel
theorem dX10_claim_5 : decode cX10_claim 5 = .ok (.ifCond .eq 25, 3) := by decide +kernel
theorem dX10_claim_8 : decode cX10_claim 8 = .ok (.iload_n 2, 1) := by decide +kernel
theorem dX10_claim_9 : decode cX10_claim 9 = .ok (.bipush (-99), 2) := by decide +kernel
theorem dX10_claim_11 : decode cX10_claim 11 = .ok (.bipush 99, 2) := by decide +kernel
theorem dX10_claim_13 : decode cX10_claim 13 = .ok (.invokestatic 117, 3) := by decide +kernel
theorem dX10_claim_16 : decode cX10_claim 16 = .ok (.ifCond .eq 14, 3) := by decide +kernel
theorem dX10_claim_19 : decode cX10_claim 19 = .ok (.iload_n 3, 1) := by decide +kernel
theorem dX10_claim_20 : decode cX10_claim 20 = .ok (.bipush (-99), 2) := by decide +kernel
theorem dX10_claim_22 : decode cX10_claim 22 = .ok (.bipush 99, 2) := by decide +kernel
theorem dX10_claim_24 : decode cX10_claim 24 = .ok (.invokestatic 117, 3) := by decide +kernel
theorem dX10_claim_27 : decode cX10_claim 27 = .ok (.ifCond .ne 6, 3) := by decide +kernel
theorem dX10_claim_30 : decode cX10_claim 30 = .ok (.bipush (-2), 2) := by decide +kernel
theorem dX10_claim_32 : decode cX10_claim 32 = .ok (.ireturn, 1) := by decide +kernel
theorem dX10_claim_33 : decode cX10_claim 33 = .ok (.aload_n 0, 1) := by decide +kernel
theorem dX10_claim_34 : decode cX10_claim 34 = .ok (.getfield 53, 3) := by decide +kernel
theorem dX10_claim_37 : decode cX10_claim 37 = .ok (.iload_n 1, 1) := by decide +kernel
theorem dX10_claim_38 : decode cX10_claim 38 = .ok (.iload_n 2, 1) := by decide +kernel
theorem dX10_claim_39 : decode cX10_claim 39 = .ok (.iastore, 1) := by decide +kernel
theorem dX10_claim_40 : decode cX10_claim 40 = .ok (.aload_n 0, 1) := by decide +kernel
theorem dX10_claim_41 : decode cX10_claim 41 = .ok (.getfield 56, 3) := by decide +kernel
theorem dX10_claim_44 : decode cX10_claim 44 = .ok (.iload_n 1, 1) := by decide +kernel
theorem dX10_claim_45 : decode cX10_claim 45 = .ok (.iload_n 3, 1) := by decide +kernel
theorem dX10_claim_46 : decode cX10_claim 46 = .ok (.iastore, 1) := by decide +kernel
theorem dX10_claim_47 : decode cX10_claim 47 = .ok (.iconst 1, 1) := by decide +kernel
theorem dX10_claim_48 : decode cX10_claim 48 = .ok (.ireturn, 1) := by decide +kernel
theorem dX10_lostMany_0 : decode cX10_lostMany 0 = .ok (.iconst 0, 1) := by decide +kernel
theorem dX10_lostMany_1 : decode cX10_lostMany 1 = .ok (.istore_n 2, 1) := by decide +kernel
theorem dX10_lostMany_2 : decode cX10_lostMany 2 = .ok (.iconst 0, 1) := by decide +kernel
theorem dX10_lostMany_3 : decode cX10_lostMany 3 = .ok (.istore_n 3, 1) := by decide +kernel
theorem dX10_lostMany_4 : decode cX10_lostMany 4 = .ok (.iload_n 3, 1) := by decide +kernel
theorem dX10_lostMany_5 : decode cX10_lostMany 5 = .ok (.aload_n 0, 1) := by decide +kernel
theorem dX10_lostMany_6 : decode cX10_lostMany 6 = .ok (.getfield 47, 3) := by decide +kernel
theorem dX10_lostMany_9 : decode cX10_lostMany 9 = .ok (.iload_n 1, 1) := by decide +kernel
theorem dX10_lostMany_10 : decode cX10_lostMany 10 = .ok (.iaload, 1) := by decide +kernel
theorem dX10_lostMany_11 : decode cX10_lostMany 11 = .ok (.if_icmp .ge 32, 3) := by decide +kernel
theorem dX10_lostMany_14 : decode cX10_lostMany 14 = .ok (.iload_n 2, 1) := by decide +kernel
theorem dX10_lostMany_15 : decode cX10_lostMany 15 = .ok (.aload_n 0, 1) := by decide +kernel
theorem dX10_lostMany_16 : decode cX10_lostMany 16 = .ok (.getfield 50, 3) := by decide +kernel
theorem dX10_lostMany_19 : decode cX10_lostMany 19 = .ok (.bipush 12, 2) := by decide +kernel
theorem dX10_lostMany_21 : decode cX10_lostMany 21 = .ok (.iload_n 1, 1) := by decide +kernel
theorem dX10_lostMany_22 : decode cX10_lostMany 22 = .ok (.imul, 1) := by decide +kernel
theorem dX10_lostMany_23 : decode cX10_lostMany 23 = .ok (.iload_n 3, 1) := by decide +kernel
theorem dX10_lostMany_24 : decode cX10_lostMany 24 = .ok (.iadd, 1) := by decide +kernel
theorem dX10_lostMany_25 : decode cX10_lostMany 25 = .ok (.iaload, 1) := by decide +kernel
theorem dX10_lostMany_26 : decode cX10_lostMany 26 = .ok (.iconst (-1), 1) := by decide +kernel
theorem dX10_lostMany_27 : decode cX10_lostMany 27 = .ok (.if_icmp .ne 7, 3) := by decide +kernel
theorem dX10_lostMany_30 : decode cX10_lostMany 30 = .ok (.iconst 1, 1) := by decide +kernel
theorem dX10_lostMany_31 : decode cX10_lostMany 31 = .ok (.goto 4, 3) := by decide +kernel
theorem dX10_lostMany_34 : decode cX10_lostMany 34 = .ok (.iconst 0, 1) := by decide +kernel
theorem dX10_lostMany_35 : decode cX10_lostMany 35 = .ok (.iadd, 1) := by decide +kernel
theorem dX10_lostMany_36 : decode cX10_lostMany 36 = .ok (.istore_n 2, 1) := by decide +kernel
theorem dX10_lostMany_37 : decode cX10_lostMany 37 = .ok (.iinc 3 1, 3) := by decide +kernel
theorem dX10_lostMany_40 : decode cX10_lostMany 40 = .ok (.goto (-36), 3) := by decide +kernel
theorem dX10_lostMany_43 : decode cX10_lostMany 43 = .ok (.iload_n 2, 1) := by decide +kernel
theorem dX10_lostMany_44 : decode cX10_lostMany 44 = .ok (.ireturn, 1) := by decide +kernel
theorem dX10_isShort_0 : decode cX10_isShort 0 = .ok (.aload_n 0, 1) := by decide +kernel
theorem dX10_isShort_1 : decode cX10_isShort 1 = .ok (.getfield 56, 3) := by decide +kernel
theorem dX10_isShort_4 : decode cX10_isShort 4 = .ok (.iload_n 1, 1) := by decide +kernel
theorem dX10_isShort_5 : decode cX10_isShort 5 = .ok (.iaload, 1) := by decide +kernel
theorem dX10_isShort_6 : decode cX10_isShort 6 = .ok (.aload_n 0, 1) := by decide +kernel
theorem dX10_isShort_7 : decode cX10_isShort 7 = .ok (.getfield 53, 3) := by decide +kernel
theorem dX10_isShort_10 : decode cX10_isShort 10 = .ok (.iload_n 1, 1) := by decide +kernel
theorem dX10_isShort_11 : decode cX10_isShort 11 = .ok (.iaload, 1) := by decide +kernel
theorem dX10_isShort_12 : decode cX10_isShort 12 = .ok (.if_icmp .le 7, 3) := by decide +kernel
theorem dX10_isShort_15 : decode cX10_isShort 15 = .ok (.iconst 1, 1) := by decide +kernel
theorem dX10_isShort_16 : decode cX10_isShort 16 = .ok (.goto 4, 3) := by decide +kernel
theorem dX10_isShort_19 : decode cX10_isShort 19 = .ok (.iconst 0, 1) := by decide +kernel
theorem dX10_isShort_20 : decode cX10_isShort 20 = .ok (.ireturn, 1) := by decide +kernel
theorem dX10_aboutOf_0 : decode cX10_aboutOf 0 = .ok (.iload_n 2, 1) := by decide +kernel
theorem dX10_aboutOf_1 : decode cX10_aboutOf 1 = .ok (.tableswitch 120 0 8 #[51, 58, 65, 71, 78, 85, 99, 106, 113], 51) := by decide +kernel
theorem dX10_aboutOf_52 : decode cX10_aboutOf 52 = .ok (.aload_n 0, 1) := by decide +kernel
theorem dX10_aboutOf_53 : decode cX10_aboutOf 53 = .ok (.getfield 44, 3) := by decide +kernel
theorem dX10_aboutOf_56 : decode cX10_aboutOf 56 = .ok (.iload_n 1, 1) := by decide +kernel
theorem dX10_aboutOf_57 : decode cX10_aboutOf 57 = .ok (.iaload, 1) := by decide +kernel
theorem dX10_aboutOf_58 : decode cX10_aboutOf 58 = .ok (.ireturn, 1) := by decide +kernel
theorem dX10_aboutOf_59 : decode cX10_aboutOf 59 = .ok (.aload_n 0, 1) := by decide +kernel
theorem dX10_aboutOf_60 : decode cX10_aboutOf 60 = .ok (.getfield 47, 3) := by decide +kernel
theorem dX10_aboutOf_63 : decode cX10_aboutOf 63 = .ok (.iload_n 1, 1) := by decide +kernel
theorem dX10_aboutOf_64 : decode cX10_aboutOf 64 = .ok (.iaload, 1) := by decide +kernel
theorem dX10_aboutOf_65 : decode cX10_aboutOf 65 = .ok (.ireturn, 1) := by decide +kernel
theorem dX10_aboutOf_66 : decode cX10_aboutOf 66 = .ok (.aload_n 0, 1) := by decide +kernel
theorem dX10_aboutOf_67 : decode cX10_aboutOf 67 = .ok (.iload_n 1, 1) := by decide +kernel
theorem dX10_aboutOf_68 : decode cX10_aboutOf 68 = .ok (.invokevirtual 238, 3) := by decide +kernel
theorem dX10_aboutOf_71 : decode cX10_aboutOf 71 = .ok (.ireturn, 1) := by decide +kernel
theorem dX10_aboutOf_72 : decode cX10_aboutOf 72 = .ok (.aload_n 0, 1) := by decide +kernel
theorem dX10_aboutOf_73 : decode cX10_aboutOf 73 = .ok (.getfield 53, 3) := by decide +kernel
theorem dX10_aboutOf_76 : decode cX10_aboutOf 76 = .ok (.iload_n 1, 1) := by decide +kernel
theorem dX10_aboutOf_77 : decode cX10_aboutOf 77 = .ok (.iaload, 1) := by decide +kernel
theorem dX10_aboutOf_78 : decode cX10_aboutOf 78 = .ok (.ireturn, 1) := by decide +kernel
theorem dX10_aboutOf_79 : decode cX10_aboutOf 79 = .ok (.aload_n 0, 1) := by decide +kernel
theorem dX10_aboutOf_80 : decode cX10_aboutOf 80 = .ok (.getfield 56, 3) := by decide +kernel
theorem dX10_aboutOf_83 : decode cX10_aboutOf 83 = .ok (.iload_n 1, 1) := by decide +kernel
theorem dX10_aboutOf_84 : decode cX10_aboutOf 84 = .ok (.iaload, 1) := by decide +kernel
theorem dX10_aboutOf_85 : decode cX10_aboutOf 85 = .ok (.ireturn, 1) := by decide +kernel
theorem dX10_aboutOf_86 : decode cX10_aboutOf 86 = .ok (.aload_n 0, 1) := by decide +kernel
theorem dX10_aboutOf_87 : decode cX10_aboutOf 87 = .ok (.iload_n 1, 1) := by decide +kernel
theorem dX10_aboutOf_88 : decode cX10_aboutOf 88 = .ok (.invokevirtual 241, 3) := by decide +kernel
theorem dX10_aboutOf_91 : decode cX10_aboutOf 91 = .ok (.ifCond .eq 7, 3) := by decide +kernel
theorem dX10_aboutOf_94 : decode cX10_aboutOf 94 = .ok (.iconst 1, 1) := by decide +kernel
theorem dX10_aboutOf_95 : decode cX10_aboutOf 95 = .ok (.goto 4, 3) := by decide +kernel
theorem dX10_aboutOf_98 : decode cX10_aboutOf 98 = .ok (.iconst 0, 1) := by decide +kernel
theorem dX10_aboutOf_99 : decode cX10_aboutOf 99 = .ok (.ireturn, 1) := by decide +kernel
theorem dX10_aboutOf_100 : decode cX10_aboutOf 100 = .ok (.aload_n 0, 1) := by decide +kernel
theorem dX10_aboutOf_101 : decode cX10_aboutOf 101 = .ok (.getfield 59, 3) := by decide +kernel
theorem dX10_aboutOf_104 : decode cX10_aboutOf 104 = .ok (.iload_n 1, 1) := by decide +kernel
theorem dX10_aboutOf_105 : decode cX10_aboutOf 105 = .ok (.iaload, 1) := by decide +kernel
theorem dX10_aboutOf_106 : decode cX10_aboutOf 106 = .ok (.ireturn, 1) := by decide +kernel
theorem dX10_aboutOf_107 : decode cX10_aboutOf 107 = .ok (.aload_n 0, 1) := by decide +kernel
theorem dX10_aboutOf_108 : decode cX10_aboutOf 108 = .ok (.getfield 62, 3) := by decide +kernel
theorem dX10_aboutOf_111 : decode cX10_aboutOf 111 = .ok (.iload_n 1, 1) := by decide +kernel
theorem dX10_aboutOf_112 : decode cX10_aboutOf 112 = .ok (.iaload, 1) := by decide +kernel
theorem dX10_aboutOf_113 : decode cX10_aboutOf 113 = .ok (.ireturn, 1) := by decide +kernel
theorem dX10_aboutOf_114 : decode cX10_aboutOf 114 = .ok (.aload_n 0, 1) := by decide +kernel
theorem dX10_aboutOf_115 : decode cX10_aboutOf 115 = .ok (.getfield 65, 3) := by decide +kernel
theorem dX10_aboutOf_118 : decode cX10_aboutOf 118 = .ok (.iload_n 1, 1) := by decide +kernel
theorem dX10_aboutOf_119 : decode cX10_aboutOf 119 = .ok (.iaload, 1) := by decide +kernel
theorem dX10_aboutOf_120 : decode cX10_aboutOf 120 = .ok (.ireturn, 1) := by decide +kernel
theorem dX10_aboutOf_121 : decode cX10_aboutOf 121 = .ok (.sipush (-1000), 3) := by decide +kernel
theorem dX10_aboutOf_124 : decode cX10_aboutOf 124 = .ok (.ireturn, 1) := by decide +kernel
theorem dX10_about_0 : decode cX10_about 0 = .ok (.aload_n 0, 1) := by decide +kernel
theorem dX10_about_1 : decode cX10_about 1 = .ok (.iload_n 1, 1) := by decide +kernel
theorem dX10_about_2 : decode cX10_about 2 = .ok (.invokevirtual 232, 3) := by decide +kernel
theorem dX10_about_5 : decode cX10_about 5 = .ok (.ifCond .eq 12, 3) := by decide +kernel
theorem dX10_about_8 : decode cX10_about 8 = .ok (.aload_n 0, 1) := by decide +kernel
theorem dX10_about_9 : decode cX10_about 9 = .ok (.iload_n 1, 1) := by decide +kernel
theorem dX10_about_10 : decode cX10_about 10 = .ok (.iload_n 2, 1) := by decide +kernel
theorem dX10_about_11 : decode cX10_about 11 = .ok (.invokevirtual 244, 3) := by decide +kernel
theorem dX10_about_14 : decode cX10_about 14 = .ok (.goto 6, 3) := by decide +kernel
theorem dX10_about_17 : decode cX10_about 17 = .ok (.sipush (-1000), 3) := by decide +kernel
theorem dX10_about_20 : decode cX10_about 20 = .ok (.ireturn, 1) := by decide +kernel
theorem dX10_tell_0 : decode cX10_tell 0 = .ok (.aload_n 0, 1) := by decide +kernel
theorem dX10_tell_1 : decode cX10_tell 1 = .ok (.iload_n 1, 1) := by decide +kernel
theorem dX10_tell_2 : decode cX10_tell 2 = .ok (.invokevirtual 232, 3) := by decide +kernel
theorem dX10_tell_5 : decode cX10_tell 5 = .ok (.ifCond .eq 40, 3) := by decide +kernel
theorem dX10_tell_8 : decode cX10_tell 8 = .ok (.iload_n 2, 1) := by decide +kernel
theorem dX10_tell_9 : decode cX10_tell 9 = .ok (.iconst 0, 1) := by decide +kernel
theorem dX10_tell_10 : decode cX10_tell 10 = .ok (.iconst 2, 1) := by decide +kernel
theorem dX10_tell_11 : decode cX10_tell 11 = .ok (.invokestatic 117, 3) := by decide +kernel
theorem dX10_tell_14 : decode cX10_tell 14 = .ok (.ifCond .eq 31, 3) := by decide +kernel
theorem dX10_tell_17 : decode cX10_tell 17 = .ok (.iload_n 3, 1) := by decide +kernel
theorem dX10_tell_18 : decode cX10_tell 18 = .ok (.iload_n 2, 1) := by decide +kernel
theorem dX10_tell_19 : decode cX10_tell 19 = .ok (.iconst 1, 1) := by decide +kernel
theorem dX10_tell_20 : decode cX10_tell 20 = .ok (.if_icmp .ne 7, 3) := by decide +kernel
theorem dX10_tell_23 : decode cX10_tell 23 = .ok (.iconst 1, 1) := by decide +kernel
theorem dX10_tell_24 : decode cX10_tell 24 = .ok (.goto 4, 3) := by decide +kernel
theorem dX10_tell_27 : decode cX10_tell 27 = .ok (.iconst 0, 1) := by decide +kernel
theorem dX10_tell_28 : decode cX10_tell 28 = .ok (.iload_n 2, 1) := by decide +kernel
theorem dX10_tell_29 : decode cX10_tell 29 = .ok (.ifCond .ne 8, 3) := by decide +kernel
theorem dX10_tell_32 : decode cX10_tell 32 = .ok (.bipush 99, 2) := by decide +kernel
theorem dX10_tell_34 : decode cX10_tell 34 = .ok (.goto 5, 3) := by decide +kernel
theorem dX10_tell_37 : decode cX10_tell 37 = .ok (.bipush 50, 2) := by decide +kernel
theorem dX10_tell_39 : decode cX10_tell 39 = .ok (.invokestatic 117, 3) := by decide +kernel
theorem dX10_tell_42 : decode cX10_tell 42 = .ok (.ifCond .ne 6, 3) := by decide +kernel
theorem dX10_tell_45 : decode cX10_tell 45 = .ok (.bipush (-2), 2) := by decide +kernel
theorem dX10_tell_47 : decode cX10_tell 47 = .ok (.ireturn, 1) := by decide +kernel
theorem dX10_tell_48 : decode cX10_tell 48 = .ok (.aload_n 0, 1) := by decide +kernel
theorem dX10_tell_49 : decode cX10_tell 49 = .ok (.iload_n 1, 1) := by decide +kernel
theorem dX10_tell_50 : decode cX10_tell 50 = .ok (.bipush 6, 2) := by decide +kernel
theorem dX10_tell_52 : decode cX10_tell 52 = .ok (.iload_n 2, 1) := by decide +kernel
theorem dX10_tell_53 : decode cX10_tell 53 = .ok (.iadd, 1) := by decide +kernel
theorem dX10_tell_54 : decode cX10_tell 54 = .ok (.invokevirtual 244, 3) := by decide +kernel
theorem dX10_tell_57 : decode cX10_tell 57 = .ok (.istore 4, 2) := by decide +kernel
theorem dX10_tell_59 : decode cX10_tell 59 = .ok (.aload_n 0, 1) := by decide +kernel
theorem dX10_tell_60 : decode cX10_tell 60 = .ok (.getfield 59, 3) := by decide +kernel
theorem dX10_tell_63 : decode cX10_tell 63 = .ok (.iload_n 1, 1) := by decide +kernel
theorem dX10_tell_64 : decode cX10_tell 64 = .ok (.iload_n 2, 1) := by decide +kernel
theorem dX10_tell_65 : decode cX10_tell 65 = .ok (.ifCond .ne 7, 3) := by decide +kernel
theorem dX10_tell_68 : decode cX10_tell 68 = .ok (.iload_n 3, 1) := by decide +kernel
theorem dX10_tell_69 : decode cX10_tell 69 = .ok (.goto 9, 3) := by decide +kernel
theorem dX10_tell_72 : decode cX10_tell 72 = .ok (.aload_n 0, 1) := by decide +kernel
theorem dX10_tell_73 : decode cX10_tell 73 = .ok (.getfield 59, 3) := by decide +kernel
theorem dX10_tell_76 : decode cX10_tell 76 = .ok (.iload_n 1, 1) := by decide +kernel
theorem dX10_tell_77 : decode cX10_tell 77 = .ok (.iaload, 1) := by decide +kernel
theorem dX10_tell_78 : decode cX10_tell 78 = .ok (.iastore, 1) := by decide +kernel
theorem dX10_tell_79 : decode cX10_tell 79 = .ok (.aload_n 0, 1) := by decide +kernel
theorem dX10_tell_80 : decode cX10_tell 80 = .ok (.getfield 62, 3) := by decide +kernel
theorem dX10_tell_83 : decode cX10_tell 83 = .ok (.iload_n 1, 1) := by decide +kernel
theorem dX10_tell_84 : decode cX10_tell 84 = .ok (.iload_n 2, 1) := by decide +kernel
theorem dX10_tell_85 : decode cX10_tell 85 = .ok (.iconst 1, 1) := by decide +kernel
theorem dX10_tell_86 : decode cX10_tell 86 = .ok (.if_icmp .ne 7, 3) := by decide +kernel
theorem dX10_tell_89 : decode cX10_tell 89 = .ok (.iload_n 3, 1) := by decide +kernel
theorem dX10_tell_90 : decode cX10_tell 90 = .ok (.goto 9, 3) := by decide +kernel
theorem dX10_tell_93 : decode cX10_tell 93 = .ok (.aload_n 0, 1) := by decide +kernel
theorem dX10_tell_94 : decode cX10_tell 94 = .ok (.getfield 62, 3) := by decide +kernel
theorem dX10_tell_97 : decode cX10_tell 97 = .ok (.iload_n 1, 1) := by decide +kernel
theorem dX10_tell_98 : decode cX10_tell 98 = .ok (.iaload, 1) := by decide +kernel
theorem dX10_tell_99 : decode cX10_tell 99 = .ok (.iastore, 1) := by decide +kernel
theorem dX10_tell_100 : decode cX10_tell 100 = .ok (.aload_n 0, 1) := by decide +kernel
theorem dX10_tell_101 : decode cX10_tell 101 = .ok (.getfield 65, 3) := by decide +kernel
theorem dX10_tell_104 : decode cX10_tell 104 = .ok (.iload_n 1, 1) := by decide +kernel
theorem dX10_tell_105 : decode cX10_tell 105 = .ok (.iload_n 2, 1) := by decide +kernel
theorem dX10_tell_106 : decode cX10_tell 106 = .ok (.iconst 2, 1) := by decide +kernel
theorem dX10_tell_107 : decode cX10_tell 107 = .ok (.if_icmp .ne 7, 3) := by decide +kernel
theorem dX10_tell_110 : decode cX10_tell 110 = .ok (.iload_n 3, 1) := by decide +kernel
theorem dX10_tell_111 : decode cX10_tell 111 = .ok (.goto 9, 3) := by decide +kernel
theorem dX10_tell_114 : decode cX10_tell 114 = .ok (.aload_n 0, 1) := by decide +kernel
theorem dX10_tell_115 : decode cX10_tell 115 = .ok (.getfield 65, 3) := by decide +kernel
theorem dX10_tell_118 : decode cX10_tell 118 = .ok (.iload_n 1, 1) := by decide +kernel
theorem dX10_tell_119 : decode cX10_tell 119 = .ok (.iaload, 1) := by decide +kernel
theorem dX10_tell_120 : decode cX10_tell 120 = .ok (.iastore, 1) := by decide +kernel
theorem dX10_tell_121 : decode cX10_tell 121 = .ok (.iload 4, 2) := by decide +kernel
theorem dX10_tell_123 : decode cX10_tell 123 = .ok (.ireturn, 1) := by decide +kernel
theorem dX10_logged_0 : decode cX10_logged 0 = .ok (.aload_n 0, 1) := by decide +kernel
theorem dX10_logged_1 : decode cX10_logged 1 = .ok (.iload_n 1, 1) := by decide +kernel
theorem dX10_logged_2 : decode cX10_logged 2 = .ok (.invokevirtual 232, 3) := by decide +kernel
theorem dX10_logged_5 : decode cX10_logged 5 = .ok (.ifCond .eq 33, 3) := by decide +kernel
theorem dX10_logged_8 : decode cX10_logged 8 = .ok (.iload_n 2, 1) := by decide +kernel
theorem dX10_logged_9 : decode cX10_logged 9 = .ok (.iconst 0, 1) := by decide +kernel
theorem dX10_logged_10 : decode cX10_logged 10 = .ok (.aload_n 0, 1) := by decide +kernel
theorem dX10_logged_11 : decode cX10_logged 11 = .ok (.getfield 47, 3) := by decide +kernel
theorem dX10_logged_14 : decode cX10_logged 14 = .ok (.iload_n 1, 1) := by decide +kernel
theorem dX10_logged_15 : decode cX10_logged 15 = .ok (.iaload, 1) := by decide +kernel
theorem dX10_logged_16 : decode cX10_logged 16 = .ok (.iconst 1, 1) := by decide +kernel
theorem dX10_logged_17 : decode cX10_logged 17 = .ok (.isub, 1) := by decide +kernel
theorem dX10_logged_18 : decode cX10_logged 18 = .ok (.invokestatic 117, 3) := by decide +kernel
theorem dX10_logged_21 : decode cX10_logged 21 = .ok (.ifCond .eq 17, 3) := by decide +kernel
theorem dX10_logged_24 : decode cX10_logged 24 = .ok (.aload_n 0, 1) := by decide +kernel
theorem dX10_logged_25 : decode cX10_logged 25 = .ok (.getfield 50, 3) := by decide +kernel
theorem dX10_logged_28 : decode cX10_logged 28 = .ok (.bipush 12, 2) := by decide +kernel
theorem dX10_logged_30 : decode cX10_logged 30 = .ok (.iload_n 1, 1) := by decide +kernel
theorem dX10_logged_31 : decode cX10_logged 31 = .ok (.imul, 1) := by decide +kernel
theorem dX10_logged_32 : decode cX10_logged 32 = .ok (.iload_n 2, 1) := by decide +kernel
theorem dX10_logged_33 : decode cX10_logged 33 = .ok (.iadd, 1) := by decide +kernel
theorem dX10_logged_34 : decode cX10_logged 34 = .ok (.iaload, 1) := by decide +kernel
theorem dX10_logged_35 : decode cX10_logged 35 = .ok (.goto 5, 3) := by decide +kernel
theorem dX10_logged_38 : decode cX10_logged 38 = .ok (.bipush (-2), 2) := by decide +kernel
theorem dX10_logged_40 : decode cX10_logged 40 = .ok (.ireturn, 1) := by decide +kernel
theorem dX10_filledBy_0 : decode cX10_filledBy 0 = .ok (.iload_n 2, 1) := by decide +kernel
theorem dX10_filledBy_1 : decode cX10_filledBy 1 = .ok (.istore_n 3, 1) := by decide +kernel
theorem dX10_filledBy_2 : decode cX10_filledBy 2 = .ok (.iconst 0, 1) := by decide +kernel
theorem dX10_filledBy_3 : decode cX10_filledBy 3 = .ok (.istore 4, 2) := by decide +kernel
theorem dX10_filledBy_5 : decode cX10_filledBy 5 = .ok (.iload 4, 2) := by decide +kernel
theorem dX10_filledBy_7 : decode cX10_filledBy 7 = .ok (.aload_n 0, 1) := by decide +kernel
theorem dX10_filledBy_8 : decode cX10_filledBy 8 = .ok (.getfield 47, 3) := by decide +kernel
theorem dX10_filledBy_11 : decode cX10_filledBy 11 = .ok (.iload_n 1, 1) := by decide +kernel
theorem dX10_filledBy_12 : decode cX10_filledBy 12 = .ok (.iaload, 1) := by decide +kernel
theorem dX10_filledBy_13 : decode cX10_filledBy 13 = .ok (.if_icmp .ge 77, 3) := by decide +kernel
theorem dX10_filledBy_16 : decode cX10_filledBy 16 = .ok (.aload_n 0, 1) := by decide +kernel
theorem dX10_filledBy_17 : decode cX10_filledBy 17 = .ok (.getfield 50, 3) := by decide +kernel
theorem dX10_filledBy_20 : decode cX10_filledBy 20 = .ok (.bipush 12, 2) := by decide +kernel
theorem dX10_filledBy_22 : decode cX10_filledBy 22 = .ok (.iload_n 1, 1) := by decide +kernel
theorem dX10_filledBy_23 : decode cX10_filledBy 23 = .ok (.imul, 1) := by decide +kernel
theorem dX10_filledBy_24 : decode cX10_filledBy 24 = .ok (.iload 4, 2) := by decide +kernel
theorem dX10_filledBy_26 : decode cX10_filledBy 26 = .ok (.iadd, 1) := by decide +kernel
theorem dX10_filledBy_27 : decode cX10_filledBy 27 = .ok (.iaload, 1) := by decide +kernel
theorem dX10_filledBy_28 : decode cX10_filledBy 28 = .ok (.iconst (-1), 1) := by decide +kernel
theorem dX10_filledBy_29 : decode cX10_filledBy 29 = .ok (.if_icmp .ne 7, 3) := by decide +kernel
theorem dX10_filledBy_32 : decode cX10_filledBy 32 = .ok (.iconst 1, 1) := by decide +kernel
theorem dX10_filledBy_33 : decode cX10_filledBy 33 = .ok (.goto 4, 3) := by decide +kernel
theorem dX10_filledBy_36 : decode cX10_filledBy 36 = .ok (.iconst 0, 1) := by decide +kernel
theorem dX10_filledBy_37 : decode cX10_filledBy 37 = .ok (.istore 5, 2) := by decide +kernel
theorem dX10_filledBy_39 : decode cX10_filledBy 39 = .ok (.aload_n 0, 1) := by decide +kernel
theorem dX10_filledBy_40 : decode cX10_filledBy 40 = .ok (.getfield 68, 3) := by decide +kernel
theorem dX10_filledBy_43 : decode cX10_filledBy 43 = .ok (.iload 4, 2) := by decide +kernel
theorem dX10_filledBy_45 : decode cX10_filledBy 45 = .ok (.iload 5, 2) := by decide +kernel
theorem dX10_filledBy_47 : decode cX10_filledBy 47 = .ok (.ifCond .eq 10, 3) := by decide +kernel
theorem dX10_filledBy_50 : decode cX10_filledBy 50 = .ok (.iload_n 3, 1) := by decide +kernel
theorem dX10_filledBy_51 : decode cX10_filledBy 51 = .ok (.bipush 8, 2) := by decide +kernel
theorem dX10_filledBy_53 : decode cX10_filledBy 53 = .ok (.irem, 1) := by decide +kernel
theorem dX10_filledBy_54 : decode cX10_filledBy 54 = .ok (.goto 15, 3) := by decide +kernel
theorem dX10_filledBy_57 : decode cX10_filledBy 57 = .ok (.aload_n 0, 1) := by decide +kernel
theorem dX10_filledBy_58 : decode cX10_filledBy 58 = .ok (.getfield 50, 3) := by decide +kernel
theorem dX10_filledBy_61 : decode cX10_filledBy 61 = .ok (.bipush 12, 2) := by decide +kernel
theorem dX10_filledBy_63 : decode cX10_filledBy 63 = .ok (.iload_n 1, 1) := by decide +kernel
theorem dX10_filledBy_64 : decode cX10_filledBy 64 = .ok (.imul, 1) := by decide +kernel
theorem dX10_filledBy_65 : decode cX10_filledBy 65 = .ok (.iload 4, 2) := by decide +kernel
theorem dX10_filledBy_67 : decode cX10_filledBy 67 = .ok (.iadd, 1) := by decide +kernel
theorem dX10_filledBy_68 : decode cX10_filledBy 68 = .ok (.iaload, 1) := by decide +kernel
theorem dX10_filledBy_69 : decode cX10_filledBy 69 = .ok (.iastore, 1) := by decide +kernel
theorem dX10_filledBy_70 : decode cX10_filledBy 70 = .ok (.iload 5, 2) := by decide +kernel
theorem dX10_filledBy_72 : decode cX10_filledBy 72 = .ok (.ifCond .eq 10, 3) := by decide +kernel
theorem dX10_filledBy_75 : decode cX10_filledBy 75 = .ok (.iload_n 3, 1) := by decide +kernel
theorem dX10_filledBy_76 : decode cX10_filledBy 76 = .ok (.bipush 8, 2) := by decide +kernel
theorem dX10_filledBy_78 : decode cX10_filledBy 78 = .ok (.idiv, 1) := by decide +kernel
theorem dX10_filledBy_79 : decode cX10_filledBy 79 = .ok (.goto 4, 3) := by decide +kernel
theorem dX10_filledBy_82 : decode cX10_filledBy 82 = .ok (.iload_n 3, 1) := by decide +kernel
theorem dX10_filledBy_83 : decode cX10_filledBy 83 = .ok (.istore_n 3, 1) := by decide +kernel
theorem dX10_filledBy_84 : decode cX10_filledBy 84 = .ok (.iinc 4 1, 3) := by decide +kernel
theorem dX10_filledBy_87 : decode cX10_filledBy 87 = .ok (.goto (-82), 3) := by decide +kernel
theorem dX10_filledBy_90 : decode cX10_filledBy 90 = .ok (.return_, 1) := by decide +kernel
theorem dX10_goesAll_0 : decode cX10_goesAll 0 = .ok (.aload_n 0, 1) := by decide +kernel
theorem dX10_goesAll_1 : decode cX10_goesAll 1 = .ok (.aload_n 0, 1) := by decide +kernel
theorem dX10_goesAll_2 : decode cX10_goesAll 2 = .ok (.getfield 44, 3) := by decide +kernel
theorem dX10_goesAll_5 : decode cX10_goesAll 5 = .ok (.iload_n 1, 1) := by decide +kernel
theorem dX10_goesAll_6 : decode cX10_goesAll 6 = .ok (.iaload, 1) := by decide +kernel
theorem dX10_goesAll_7 : decode cX10_goesAll 7 = .ok (.aload_n 0, 1) := by decide +kernel
theorem dX10_goesAll_8 : decode cX10_goesAll 8 = .ok (.getfield 44, 3) := by decide +kernel
theorem dX10_goesAll_11 : decode cX10_goesAll 11 = .ok (.iload_n 1, 1) := by decide +kernel
theorem dX10_goesAll_12 : decode cX10_goesAll 12 = .ok (.iaload, 1) := by decide +kernel
theorem dX10_goesAll_13 : decode cX10_goesAll 13 = .ok (.iconst 0, 1) := by decide +kernel
theorem dX10_goesAll_14 : decode cX10_goesAll 14 = .ok (.invokevirtual 209, 3) := by decide +kernel
theorem dX10_goesAll_17 : decode cX10_goesAll 17 = .ok (.aload_n 0, 1) := by decide +kernel
theorem dX10_goesAll_18 : decode cX10_goesAll 18 = .ok (.invokevirtual 213, 3) := by decide +kernel
theorem dX10_goesAll_21 : decode cX10_goesAll 21 = .ok (.iconst 0, 1) := by decide +kernel
theorem dX10_goesAll_22 : decode cX10_goesAll 22 = .ok (.istore 4, 2) := by decide +kernel
theorem dX10_goesAll_24 : decode cX10_goesAll 24 = .ok (.iload 4, 2) := by decide +kernel
theorem dX10_goesAll_26 : decode cX10_goesAll 26 = .ok (.aload_n 0, 1) := by decide +kernel
theorem dX10_goesAll_27 : decode cX10_goesAll 27 = .ok (.getfield 47, 3) := by decide +kernel
theorem dX10_goesAll_30 : decode cX10_goesAll 30 = .ok (.iload_n 1, 1) := by decide +kernel
theorem dX10_goesAll_31 : decode cX10_goesAll 31 = .ok (.iaload, 1) := by decide +kernel
theorem dX10_goesAll_32 : decode cX10_goesAll 32 = .ok (.if_icmp .gt 50, 3) := by decide +kernel
theorem dX10_goesAll_35 : decode cX10_goesAll 35 = .ok (.iload 4, 2) := by decide +kernel
theorem dX10_goesAll_37 : decode cX10_goesAll 37 = .ok (.iload_n 2, 1) := by decide +kernel
theorem dX10_goesAll_38 : decode cX10_goesAll 38 = .ok (.if_icmp .ne 16, 3) := by decide +kernel
theorem dX10_goesAll_41 : decode cX10_goesAll 41 = .ok (.aload_n 0, 1) := by decide +kernel
theorem dX10_goesAll_42 : decode cX10_goesAll 42 = .ok (.iconst 2, 1) := by decide +kernel
theorem dX10_goesAll_43 : decode cX10_goesAll 43 = .ok (.aload_n 0, 1) := by decide +kernel
theorem dX10_goesAll_44 : decode cX10_goesAll 44 = .ok (.getfield 38, 3) := by decide +kernel
theorem dX10_goesAll_47 : decode cX10_goesAll 47 = .ok (.iconst 2, 1) := by decide +kernel
theorem dX10_goesAll_48 : decode cX10_goesAll 48 = .ok (.iaload, 1) := by decide +kernel
theorem dX10_goesAll_49 : decode cX10_goesAll 49 = .ok (.iload_n 3, 1) := by decide +kernel
theorem dX10_goesAll_50 : decode cX10_goesAll 50 = .ok (.iadd, 1) := by decide +kernel
theorem dX10_goesAll_51 : decode cX10_goesAll 51 = .ok (.invokevirtual 192, 3) := by decide +kernel
theorem dX10_goesAll_54 : decode cX10_goesAll 54 = .ok (.iload 4, 2) := by decide +kernel
theorem dX10_goesAll_56 : decode cX10_goesAll 56 = .ok (.aload_n 0, 1) := by decide +kernel
theorem dX10_goesAll_57 : decode cX10_goesAll 57 = .ok (.getfield 47, 3) := by decide +kernel
theorem dX10_goesAll_60 : decode cX10_goesAll 60 = .ok (.iload_n 1, 1) := by decide +kernel
theorem dX10_goesAll_61 : decode cX10_goesAll 61 = .ok (.iaload, 1) := by decide +kernel
theorem dX10_goesAll_62 : decode cX10_goesAll 62 = .ok (.if_icmp .ge 14, 3) := by decide +kernel
theorem dX10_goesAll_65 : decode cX10_goesAll 65 = .ok (.aload_n 0, 1) := by decide +kernel
theorem dX10_goesAll_66 : decode cX10_goesAll 66 = .ok (.aload_n 0, 1) := by decide +kernel
theorem dX10_goesAll_67 : decode cX10_goesAll 67 = .ok (.getfield 68, 3) := by decide +kernel
theorem dX10_goesAll_70 : decode cX10_goesAll 70 = .ok (.iload 4, 2) := by decide +kernel
theorem dX10_goesAll_72 : decode cX10_goesAll 72 = .ok (.iaload, 1) := by decide +kernel
theorem dX10_goesAll_73 : decode cX10_goesAll 73 = .ok (.invokevirtual 216, 3) := by decide +kernel
theorem dX10_goesAll_76 : decode cX10_goesAll 76 = .ok (.iinc 4 1, 3) := by decide +kernel
theorem dX10_goesAll_79 : decode cX10_goesAll 79 = .ok (.goto (-55), 3) := by decide +kernel
theorem dX10_goesAll_82 : decode cX10_goesAll 82 = .ok (.return_, 1) := by decide +kernel
theorem dX10_isFromAfar_0 : decode cX10_isFromAfar 0 = .ok (.iconst 0, 1) := by decide +kernel
theorem dX10_isFromAfar_1 : decode cX10_isFromAfar 1 = .ok (.istore_n 2, 1) := by decide +kernel
theorem dX10_isFromAfar_2 : decode cX10_isFromAfar 2 = .ok (.iload_n 2, 1) := by decide +kernel
theorem dX10_isFromAfar_3 : decode cX10_isFromAfar 3 = .ok (.aload_n 0, 1) := by decide +kernel
theorem dX10_isFromAfar_4 : decode cX10_isFromAfar 4 = .ok (.getfield 47, 3) := by decide +kernel
theorem dX10_isFromAfar_7 : decode cX10_isFromAfar 7 = .ok (.iload_n 1, 1) := by decide +kernel
theorem dX10_isFromAfar_8 : decode cX10_isFromAfar 8 = .ok (.iaload, 1) := by decide +kernel
theorem dX10_isFromAfar_9 : decode cX10_isFromAfar 9 = .ok (.if_icmp .gt 64, 3) := by decide +kernel
theorem dX10_isFromAfar_12 : decode cX10_isFromAfar 12 = .ok (.bipush (-3), 2) := by decide +kernel
theorem dX10_isFromAfar_14 : decode cX10_isFromAfar 14 = .ok (.istore_n 3, 1) := by decide +kernel
theorem dX10_isFromAfar_15 : decode cX10_isFromAfar 15 = .ok (.iload_n 3, 1) := by decide +kernel
theorem dX10_isFromAfar_16 : decode cX10_isFromAfar 16 = .ok (.iconst 4, 1) := by decide +kernel
theorem dX10_isFromAfar_17 : decode cX10_isFromAfar 17 = .ok (.if_icmp .ge 50, 3) := by decide +kernel
theorem dX10_isFromAfar_20 : decode cX10_isFromAfar 20 = .ok (.iload_n 3, 1) := by decide +kernel
theorem dX10_isFromAfar_21 : decode cX10_isFromAfar 21 = .ok (.ifCond .eq 40, 3) := by decide +kernel
theorem dX10_isFromAfar_24 : decode cX10_isFromAfar 24 = .ok (.aload_n 0, 1) := by decide +kernel
theorem dX10_isFromAfar_25 : decode cX10_isFromAfar 25 = .ok (.iload_n 1, 1) := by decide +kernel
theorem dX10_isFromAfar_26 : decode cX10_isFromAfar 26 = .ok (.iload_n 2, 1) := by decide +kernel
theorem dX10_isFromAfar_27 : decode cX10_isFromAfar 27 = .ok (.iload_n 3, 1) := by decide +kernel
theorem dX10_isFromAfar_28 : decode cX10_isFromAfar 28 = .ok (.invokevirtual 247, 3) := by decide +kernel
theorem dX10_isFromAfar_31 : decode cX10_isFromAfar 31 = .ok (.aload_n 0, 1) := by decide +kernel
theorem dX10_isFromAfar_32 : decode cX10_isFromAfar 32 = .ok (.getfield 38, 3) := by decide +kernel
theorem dX10_isFromAfar_35 : decode cX10_isFromAfar 35 = .ok (.iconst 2, 1) := by decide +kernel
theorem dX10_isFromAfar_36 : decode cX10_isFromAfar 36 = .ok (.iaload, 1) := by decide +kernel
theorem dX10_isFromAfar_37 : decode cX10_isFromAfar 37 = .ok (.aload_n 0, 1) := by decide +kernel
theorem dX10_isFromAfar_38 : decode cX10_isFromAfar 38 = .ok (.getfield 56, 3) := by decide +kernel
theorem dX10_isFromAfar_41 : decode cX10_isFromAfar 41 = .ok (.iload_n 1, 1) := by decide +kernel
theorem dX10_isFromAfar_42 : decode cX10_isFromAfar 42 = .ok (.iaload, 1) := by decide +kernel
theorem dX10_isFromAfar_43 : decode cX10_isFromAfar 43 = .ok (.if_icmp .ne 18, 3) := by decide +kernel
theorem dX10_isFromAfar_46 : decode cX10_isFromAfar 46 = .ok (.aload_n 0, 1) := by decide +kernel
theorem dX10_isFromAfar_47 : decode cX10_isFromAfar 47 = .ok (.getfield 189, 3) := by decide +kernel
theorem dX10_isFromAfar_50 : decode cX10_isFromAfar 50 = .ok (.aload_n 0, 1) := by decide +kernel
theorem dX10_isFromAfar_51 : decode cX10_isFromAfar 51 = .ok (.getfield 53, 3) := by decide +kernel
theorem dX10_isFromAfar_54 : decode cX10_isFromAfar 54 = .ok (.iload_n 1, 1) := by decide +kernel
theorem dX10_isFromAfar_55 : decode cX10_isFromAfar 55 = .ok (.iaload, 1) := by decide +kernel
theorem dX10_isFromAfar_56 : decode cX10_isFromAfar 56 = .ok (.if_icmp .ne 5, 3) := by decide +kernel
theorem dX10_isFromAfar_59 : decode cX10_isFromAfar 59 = .ok (.iconst 1, 1) := by decide +kernel
theorem dX10_isFromAfar_60 : decode cX10_isFromAfar 60 = .ok (.ireturn, 1) := by decide +kernel
theorem dX10_isFromAfar_61 : decode cX10_isFromAfar 61 = .ok (.iinc 3 1, 3) := by decide +kernel
theorem dX10_isFromAfar_64 : decode cX10_isFromAfar 64 = .ok (.goto (-49), 3) := by decide +kernel
theorem dX10_isFromAfar_67 : decode cX10_isFromAfar 67 = .ok (.iinc 2 1, 3) := by decide +kernel
theorem dX10_isFromAfar_70 : decode cX10_isFromAfar 70 = .ok (.goto (-68), 3) := by decide +kernel
theorem dX10_isFromAfar_73 : decode cX10_isFromAfar 73 = .ok (.iconst 0, 1) := by decide +kernel
theorem dX10_isFromAfar_74 : decode cX10_isFromAfar 74 = .ok (.ireturn, 1) := by decide +kernel
theorem dX10_isClear_0 : decode cX10_isClear 0 = .ok (.aload_n 0, 1) := by decide +kernel
theorem dX10_isClear_1 : decode cX10_isClear 1 = .ok (.iload_n 1, 1) := by decide +kernel
theorem dX10_isClear_2 : decode cX10_isClear 2 = .ok (.iload_n 2, 1) := by decide +kernel
theorem dX10_isClear_3 : decode cX10_isClear 3 = .ok (.invokevirtual 250, 3) := by decide +kernel
theorem dX10_isClear_6 : decode cX10_isClear 6 = .ok (.aload_n 0, 1) := by decide +kernel
theorem dX10_isClear_7 : decode cX10_isClear 7 = .ok (.iload_n 1, 1) := by decide +kernel
theorem dX10_isClear_8 : decode cX10_isClear 8 = .ok (.iconst (-1), 1) := by decide +kernel
theorem dX10_isClear_9 : decode cX10_isClear 9 = .ok (.iconst 0, 1) := by decide +kernel
theorem dX10_isClear_10 : decode cX10_isClear 10 = .ok (.invokevirtual 247, 3) := by decide +kernel
theorem dX10_isClear_13 : decode cX10_isClear 13 = .ok (.aload_n 0, 1) := by decide +kernel
theorem dX10_isClear_14 : decode cX10_isClear 14 = .ok (.getfield 38, 3) := by decide +kernel
theorem dX10_isClear_17 : decode cX10_isClear 17 = .ok (.iconst 2, 1) := by decide +kernel
theorem dX10_isClear_18 : decode cX10_isClear 18 = .ok (.iaload, 1) := by decide +kernel
theorem dX10_isClear_19 : decode cX10_isClear 19 = .ok (.aload_n 0, 1) := by decide +kernel
theorem dX10_isClear_20 : decode cX10_isClear 20 = .ok (.getfield 56, 3) := by decide +kernel
theorem dX10_isClear_23 : decode cX10_isClear 23 = .ok (.iload_n 1, 1) := by decide +kernel
theorem dX10_isClear_24 : decode cX10_isClear 24 = .ok (.iaload, 1) := by decide +kernel
theorem dX10_isClear_25 : decode cX10_isClear 25 = .ok (.if_icmp .ne 20, 3) := by decide +kernel
theorem dX10_isClear_28 : decode cX10_isClear 28 = .ok (.aload_n 0, 1) := by decide +kernel
theorem dX10_isClear_29 : decode cX10_isClear 29 = .ok (.getfield 189, 3) := by decide +kernel
theorem dX10_isClear_32 : decode cX10_isClear 32 = .ok (.aload_n 0, 1) := by decide +kernel
theorem dX10_isClear_33 : decode cX10_isClear 33 = .ok (.getfield 53, 3) := by decide +kernel
theorem dX10_isClear_36 : decode cX10_isClear 36 = .ok (.iload_n 1, 1) := by decide +kernel
theorem dX10_isClear_37 : decode cX10_isClear 37 = .ok (.iaload, 1) := by decide +kernel
theorem dX10_isClear_38 : decode cX10_isClear 38 = .ok (.if_icmp .ne 7, 3) := by decide +kernel
theorem dX10_isClear_41 : decode cX10_isClear 41 = .ok (.iconst 1, 1) := by decide +kernel
theorem dX10_isClear_42 : decode cX10_isClear 42 = .ok (.goto 4, 3) := by decide +kernel
theorem dX10_isClear_45 : decode cX10_isClear 45 = .ok (.iconst 0, 1) := by decide +kernel
theorem dX10_isClear_46 : decode cX10_isClear 46 = .ok (.ireturn, 1) := by decide +kernel
theorem dX10_causesBy_0 : decode cX10_causesBy 0 = .ok (.aload_n 0, 1) := by decide +kernel
theorem dX10_causesBy_1 : decode cX10_causesBy 1 = .ok (.iload_n 1, 1) := by decide +kernel
theorem dX10_causesBy_2 : decode cX10_causesBy 2 = .ok (.iload_n 2, 1) := by decide +kernel
theorem dX10_causesBy_3 : decode cX10_causesBy 3 = .ok (.invokevirtual 253, 3) := by decide +kernel
theorem dX10_causesBy_6 : decode cX10_causesBy 6 = .ok (.istore_n 3, 1) := by decide +kernel
theorem dX10_causesBy_7 : decode cX10_causesBy 7 = .ok (.aload_n 0, 1) := by decide +kernel
theorem dX10_causesBy_8 : decode cX10_causesBy 8 = .ok (.getfield 38, 3) := by decide +kernel
theorem dX10_causesBy_11 : decode cX10_causesBy 11 = .ok (.iconst 2, 1) := by decide +kernel
theorem dX10_causesBy_12 : decode cX10_causesBy 12 = .ok (.iaload, 1) := by decide +kernel
theorem dX10_causesBy_13 : decode cX10_causesBy 13 = .ok (.aload_n 0, 1) := by decide +kernel
theorem dX10_causesBy_14 : decode cX10_causesBy 14 = .ok (.getfield 56, 3) := by decide +kernel
theorem dX10_causesBy_17 : decode cX10_causesBy 17 = .ok (.iload_n 1, 1) := by decide +kernel
theorem dX10_causesBy_18 : decode cX10_causesBy 18 = .ok (.iaload, 1) := by decide +kernel
theorem dX10_causesBy_19 : decode cX10_causesBy 19 = .ok (.if_icmp .ne 25, 3) := by decide +kernel
theorem dX10_causesBy_22 : decode cX10_causesBy 22 = .ok (.aload_n 0, 1) := by decide +kernel
theorem dX10_causesBy_23 : decode cX10_causesBy 23 = .ok (.getfield 189, 3) := by decide +kernel
theorem dX10_causesBy_26 : decode cX10_causesBy 26 = .ok (.aload_n 0, 1) := by decide +kernel
theorem dX10_causesBy_27 : decode cX10_causesBy 27 = .ok (.getfield 53, 3) := by decide +kernel
theorem dX10_causesBy_30 : decode cX10_causesBy 30 = .ok (.iload_n 1, 1) := by decide +kernel
theorem dX10_causesBy_31 : decode cX10_causesBy 31 = .ok (.iaload, 1) := by decide +kernel
theorem dX10_causesBy_32 : decode cX10_causesBy 32 = .ok (.isub, 1) := by decide +kernel
theorem dX10_causesBy_33 : decode cX10_causesBy 33 = .ok (.invokestatic 256, 3) := by decide +kernel
theorem dX10_causesBy_36 : decode cX10_causesBy 36 = .ok (.iconst 1, 1) := by decide +kernel
theorem dX10_causesBy_37 : decode cX10_causesBy 37 = .ok (.if_icmp .ne 7, 3) := by decide +kernel
theorem dX10_causesBy_40 : decode cX10_causesBy 40 = .ok (.iconst 1, 1) := by decide +kernel
theorem dX10_causesBy_41 : decode cX10_causesBy 41 = .ok (.goto 4, 3) := by decide +kernel
theorem dX10_causesBy_44 : decode cX10_causesBy 44 = .ok (.iconst 0, 1) := by decide +kernel
theorem dX10_causesBy_45 : decode cX10_causesBy 45 = .ok (.istore 4, 2) := by decide +kernel
theorem dX10_causesBy_47 : decode cX10_causesBy 47 = .ok (.iload_n 3, 1) := by decide +kernel
theorem dX10_causesBy_48 : decode cX10_causesBy 48 = .ok (.ifCond .eq 7, 3) := by decide +kernel
theorem dX10_causesBy_51 : decode cX10_causesBy 51 = .ok (.iconst 1, 1) := by decide +kernel
theorem dX10_causesBy_52 : decode cX10_causesBy 52 = .ok (.goto 4, 3) := by decide +kernel
theorem dX10_causesBy_55 : decode cX10_causesBy 55 = .ok (.iconst 0, 1) := by decide +kernel
theorem dX10_causesBy_56 : decode cX10_causesBy 56 = .ok (.iload 4, 2) := by decide +kernel
theorem dX10_causesBy_58 : decode cX10_causesBy 58 = .ok (.ifCond .eq 7, 3) := by decide +kernel
theorem dX10_causesBy_61 : decode cX10_causesBy 61 = .ok (.iconst 2, 1) := by decide +kernel
theorem dX10_causesBy_62 : decode cX10_causesBy 62 = .ok (.goto 4, 3) := by decide +kernel
theorem dX10_causesBy_65 : decode cX10_causesBy 65 = .ok (.iconst 0, 1) := by decide +kernel
theorem dX10_causesBy_66 : decode cX10_causesBy 66 = .ok (.iadd, 1) := by decide +kernel
theorem dX10_causesBy_67 : decode cX10_causesBy 67 = .ok (.aload_n 0, 1) := by decide +kernel
theorem dX10_causesBy_68 : decode cX10_causesBy 68 = .ok (.iload_n 1, 1) := by decide +kernel
theorem dX10_causesBy_69 : decode cX10_causesBy 69 = .ok (.invokevirtual 259, 3) := by decide +kernel
theorem dX10_causesBy_72 : decode cX10_causesBy 72 = .ok (.ifCond .eq 7, 3) := by decide +kernel
theorem dX10_causesBy_75 : decode cX10_causesBy 75 = .ok (.iconst 4, 1) := by decide +kernel
theorem dX10_causesBy_76 : decode cX10_causesBy 76 = .ok (.goto 4, 3) := by decide +kernel
theorem dX10_causesBy_79 : decode cX10_causesBy 79 = .ok (.iconst 0, 1) := by decide +kernel
theorem dX10_causesBy_80 : decode cX10_causesBy 80 = .ok (.iadd, 1) := by decide +kernel
theorem dX10_causesBy_81 : decode cX10_causesBy 81 = .ok (.ireturn, 1) := by decide +kernel
theorem dX10_fillMany_0 : decode cX10_fillMany 0 = .ok (.iconst 1, 1) := by decide +kernel
theorem dX10_fillMany_1 : decode cX10_fillMany 1 = .ok (.iconst 3, 1) := by decide +kernel
theorem dX10_fillMany_2 : decode cX10_fillMany 2 = .ok (.aload_n 0, 1) := by decide +kernel
theorem dX10_fillMany_3 : decode cX10_fillMany 3 = .ok (.iload_n 1, 1) := by decide +kernel
theorem dX10_fillMany_4 : decode cX10_fillMany 4 = .ok (.invokevirtual 238, 3) := by decide +kernel
theorem dX10_fillMany_7 : decode cX10_fillMany 7 = .ok (.imul, 1) := by decide +kernel
theorem dX10_fillMany_8 : decode cX10_fillMany 8 = .ok (.ishl, 1) := by decide +kernel
theorem dX10_fillMany_9 : decode cX10_fillMany 9 = .ok (.ireturn, 1) := by decide +kernel
theorem dX10_fills_0 : decode cX10_fills 0 = .ok (.aload_n 0, 1) := by decide +kernel
theorem dX10_fills_1 : decode cX10_fills 1 = .ok (.iload_n 1, 1) := by decide +kernel
theorem dX10_fills_2 : decode cX10_fills 2 = .ok (.invokevirtual 232, 3) := by decide +kernel
theorem dX10_fills_5 : decode cX10_fills 5 = .ok (.ifCond .eq 12, 3) := by decide +kernel
theorem dX10_fills_8 : decode cX10_fills 8 = .ok (.iload_n 2, 1) := by decide +kernel
theorem dX10_fills_9 : decode cX10_fills 9 = .ok (.iconst 0, 1) := by decide +kernel
theorem dX10_fills_10 : decode cX10_fills 10 = .ok (.iconst 3, 1) := by decide +kernel
theorem dX10_fills_11 : decode cX10_fills 11 = .ok (.invokestatic 117, 3) := by decide +kernel
theorem dX10_fills_14 : decode cX10_fills 14 = .ok (.ifCond .ne 6, 3) := by decide +kernel
theorem dX10_fills_17 : decode cX10_fills 17 = .ok (.bipush (-2), 2) := by decide +kernel
theorem dX10_fills_19 : decode cX10_fills 19 = .ok (.ireturn, 1) := by decide +kernel
theorem dX10_fills_20 : decode cX10_fills 20 = .ok (.aload_n 0, 1) := by decide +kernel
theorem dX10_fills_21 : decode cX10_fills 21 = .ok (.iload_n 1, 1) := by decide +kernel
theorem dX10_fills_22 : decode cX10_fills 22 = .ok (.invokevirtual 262, 3) := by decide +kernel
theorem dX10_fills_25 : decode cX10_fills 25 = .ok (.istore_n 3, 1) := by decide +kernel
theorem dX10_fills_26 : decode cX10_fills 26 = .ok (.iconst 0, 1) := by decide +kernel
theorem dX10_fills_27 : decode cX10_fills 27 = .ok (.istore 4, 2) := by decide +kernel
theorem dX10_fills_29 : decode cX10_fills 29 = .ok (.iconst 0, 1) := by decide +kernel
theorem dX10_fills_30 : decode cX10_fills 30 = .ok (.istore 5, 2) := by decide +kernel
theorem dX10_fills_32 : decode cX10_fills 32 = .ok (.iload 5, 2) := by decide +kernel
theorem dX10_fills_34 : decode cX10_fills 34 = .ok (.iload_n 3, 1) := by decide +kernel
theorem dX10_fills_35 : decode cX10_fills 35 = .ok (.if_icmp .ge 31, 3) := by decide +kernel
theorem dX10_fills_38 : decode cX10_fills 38 = .ok (.iload_n 2, 1) := by decide +kernel
theorem dX10_fills_39 : decode cX10_fills 39 = .ok (.ifCond .le 27, 3) := by decide +kernel
theorem dX10_fills_42 : decode cX10_fills 42 = .ok (.iload 4, 2) := by decide +kernel
theorem dX10_fills_44 : decode cX10_fills 44 = .ok (.aload_n 0, 1) := by decide +kernel
theorem dX10_fills_45 : decode cX10_fills 45 = .ok (.iload_n 1, 1) := by decide +kernel
theorem dX10_fills_46 : decode cX10_fills 46 = .ok (.iload 5, 2) := by decide +kernel
theorem dX10_fills_48 : decode cX10_fills 48 = .ok (.invokevirtual 265, 3) := by decide +kernel
theorem dX10_fills_51 : decode cX10_fills 51 = .ok (.iload_n 2, 1) := by decide +kernel
theorem dX10_fills_52 : decode cX10_fills 52 = .ok (.iconst 1, 1) := by decide +kernel
theorem dX10_fills_53 : decode cX10_fills 53 = .ok (.isub, 1) := by decide +kernel
theorem dX10_fills_54 : decode cX10_fills 54 = .ok (.ishr, 1) := by decide +kernel
theorem dX10_fills_55 : decode cX10_fills 55 = .ok (.iconst 1, 1) := by decide +kernel
theorem dX10_fills_56 : decode cX10_fills 56 = .ok (.iand, 1) := by decide +kernel
theorem dX10_fills_57 : decode cX10_fills 57 = .ok (.iadd, 1) := by decide +kernel
theorem dX10_fills_58 : decode cX10_fills 58 = .ok (.istore 4, 2) := by decide +kernel
theorem dX10_fills_60 : decode cX10_fills 60 = .ok (.iinc 5 1, 3) := by decide +kernel
theorem dX10_fills_63 : decode cX10_fills 63 = .ok (.goto (-31), 3) := by decide +kernel
theorem dX10_fills_66 : decode cX10_fills 66 = .ok (.iload_n 2, 1) := by decide +kernel
theorem dX10_fills_67 : decode cX10_fills 67 = .ok (.ifCond .ne 7, 3) := by decide +kernel
theorem dX10_fills_70 : decode cX10_fills 70 = .ok (.iload_n 3, 1) := by decide +kernel
theorem dX10_fills_71 : decode cX10_fills 71 = .ok (.goto 5, 3) := by decide +kernel
theorem dX10_fills_74 : decode cX10_fills 74 = .ok (.iload 4, 2) := by decide +kernel
theorem dX10_fills_76 : decode cX10_fills 76 = .ok (.ireturn, 1) := by decide +kernel
theorem dX10_causes_0 : decode cX10_causes 0 = .ok (.aload_n 0, 1) := by decide +kernel
theorem dX10_causes_1 : decode cX10_causes 1 = .ok (.iload_n 1, 1) := by decide +kernel
theorem dX10_causes_2 : decode cX10_causes 2 = .ok (.invokevirtual 232, 3) := by decide +kernel
theorem dX10_causes_5 : decode cX10_causes 5 = .ok (.ifCond .ne 6, 3) := by decide +kernel
theorem dX10_causes_8 : decode cX10_causes 8 = .ok (.bipush (-2), 2) := by decide +kernel
theorem dX10_causes_10 : decode cX10_causes 10 = .ok (.ireturn, 1) := by decide +kernel
theorem dX10_causes_11 : decode cX10_causes 11 = .ok (.iconst 0, 1) := by decide +kernel
theorem dX10_causes_12 : decode cX10_causes 12 = .ok (.istore_n 2, 1) := by decide +kernel
theorem dX10_causes_13 : decode cX10_causes 13 = .ok (.iconst 0, 1) := by decide +kernel
theorem dX10_causes_14 : decode cX10_causes 14 = .ok (.istore_n 3, 1) := by decide +kernel
theorem dX10_causes_15 : decode cX10_causes 15 = .ok (.iload_n 3, 1) := by decide +kernel
theorem dX10_causes_16 : decode cX10_causes 16 = .ok (.aload_n 0, 1) := by decide +kernel
theorem dX10_causes_17 : decode cX10_causes 17 = .ok (.iload_n 1, 1) := by decide +kernel
theorem dX10_causes_18 : decode cX10_causes 18 = .ok (.invokevirtual 262, 3) := by decide +kernel
theorem dX10_causes_21 : decode cX10_causes 21 = .ok (.if_icmp .ge 18, 3) := by decide +kernel
theorem dX10_causes_24 : decode cX10_causes 24 = .ok (.iload_n 2, 1) := by decide +kernel
theorem dX10_causes_25 : decode cX10_causes 25 = .ok (.aload_n 0, 1) := by decide +kernel
theorem dX10_causes_26 : decode cX10_causes 26 = .ok (.iload_n 1, 1) := by decide +kernel
theorem dX10_causes_27 : decode cX10_causes 27 = .ok (.iload_n 3, 1) := by decide +kernel
theorem dX10_causes_28 : decode cX10_causes 28 = .ok (.invokevirtual 265, 3) := by decide +kernel
theorem dX10_causes_31 : decode cX10_causes 31 = .ok (.ior, 1) := by decide +kernel
theorem dX10_causes_32 : decode cX10_causes 32 = .ok (.istore_n 2, 1) := by decide +kernel
theorem dX10_causes_33 : decode cX10_causes 33 = .ok (.iinc 3 1, 3) := by decide +kernel
theorem dX10_causes_36 : decode cX10_causes 36 = .ok (.goto (-21), 3) := by decide +kernel
theorem dX10_causes_39 : decode cX10_causes 39 = .ok (.iload_n 2, 1) := by decide +kernel
theorem dX10_causes_40 : decode cX10_causes 40 = .ok (.ireturn, 1) := by decide +kernel
theorem dX10_settles_0 : decode cX10_settles 0 = .ok (.iconst 0, 1) := by decide +kernel
theorem dX10_settles_1 : decode cX10_settles 1 = .ok (.istore_n 3, 1) := by decide +kernel
theorem dX10_settles_2 : decode cX10_settles 2 = .ok (.iconst 0, 1) := by decide +kernel
theorem dX10_settles_3 : decode cX10_settles 3 = .ok (.istore 4, 2) := by decide +kernel
theorem dX10_settles_5 : decode cX10_settles 5 = .ok (.iload 4, 2) := by decide +kernel
theorem dX10_settles_7 : decode cX10_settles 7 = .ok (.iconst 3, 1) := by decide +kernel
theorem dX10_settles_8 : decode cX10_settles 8 = .ok (.if_icmp .ge 33, 3) := by decide +kernel
theorem dX10_settles_11 : decode cX10_settles 11 = .ok (.iload_n 3, 1) := by decide +kernel
theorem dX10_settles_12 : decode cX10_settles 12 = .ok (.iload_n 2, 1) := by decide +kernel
theorem dX10_settles_13 : decode cX10_settles 13 = .ok (.iload 4, 2) := by decide +kernel
theorem dX10_settles_15 : decode cX10_settles 15 = .ok (.ishr, 1) := by decide +kernel
theorem dX10_settles_16 : decode cX10_settles 16 = .ok (.iconst 1, 1) := by decide +kernel
theorem dX10_settles_17 : decode cX10_settles 17 = .ok (.iand, 1) := by decide +kernel
theorem dX10_settles_18 : decode cX10_settles 18 = .ok (.iconst 1, 1) := by decide +kernel
theorem dX10_settles_19 : decode cX10_settles 19 = .ok (.if_icmp .ne 13, 3) := by decide +kernel
theorem dX10_settles_22 : decode cX10_settles 22 = .ok (.bipush 7, 2) := by decide +kernel
theorem dX10_settles_24 : decode cX10_settles 24 = .ok (.iconst 3, 1) := by decide +kernel
theorem dX10_settles_25 : decode cX10_settles 25 = .ok (.iload 4, 2) := by decide +kernel
theorem dX10_settles_27 : decode cX10_settles 27 = .ok (.imul, 1) := by decide +kernel
theorem dX10_settles_28 : decode cX10_settles 28 = .ok (.ishl, 1) := by decide +kernel
theorem dX10_settles_29 : decode cX10_settles 29 = .ok (.goto 4, 3) := by decide +kernel
theorem dX10_settles_32 : decode cX10_settles 32 = .ok (.iconst 0, 1) := by decide +kernel
theorem dX10_settles_33 : decode cX10_settles 33 = .ok (.ior, 1) := by decide +kernel
theorem dX10_settles_34 : decode cX10_settles 34 = .ok (.istore_n 3, 1) := by decide +kernel
theorem dX10_settles_35 : decode cX10_settles 35 = .ok (.iinc 4 1, 3) := by decide +kernel
theorem dX10_settles_38 : decode cX10_settles 38 = .ok (.goto (-33), 3) := by decide +kernel
theorem dX10_settles_41 : decode cX10_settles 41 = .ok (.iconst 0, 1) := by decide +kernel
theorem dX10_settles_42 : decode cX10_settles 42 = .ok (.istore 4, 2) := by decide +kernel
theorem dX10_settles_44 : decode cX10_settles 44 = .ok (.iload 4, 2) := by decide +kernel
theorem dX10_settles_46 : decode cX10_settles 46 = .ok (.iload_n 1, 1) := by decide +kernel
theorem dX10_settles_47 : decode cX10_settles 47 = .ok (.if_icmp .ge 17, 3) := by decide +kernel
theorem dX10_settles_50 : decode cX10_settles 50 = .ok (.aload_n 0, 1) := by decide +kernel
theorem dX10_settles_51 : decode cX10_settles 51 = .ok (.getfield 74, 3) := by decide +kernel
theorem dX10_settles_54 : decode cX10_settles 54 = .ok (.iload 4, 2) := by decide +kernel
theorem dX10_settles_56 : decode cX10_settles 56 = .ok (.iconst 0, 1) := by decide +kernel
theorem dX10_settles_57 : decode cX10_settles 57 = .ok (.iastore, 1) := by decide +kernel
theorem dX10_settles_58 : decode cX10_settles 58 = .ok (.iinc 4 1, 3) := by decide +kernel
theorem dX10_settles_61 : decode cX10_settles 61 = .ok (.goto (-17), 3) := by decide +kernel
theorem dX10_settles_64 : decode cX10_settles 64 = .ok (.iconst 0, 1) := by decide +kernel
theorem dX10_settles_65 : decode cX10_settles 65 = .ok (.istore 4, 2) := by decide +kernel
theorem dX10_settles_67 : decode cX10_settles 67 = .ok (.iload 4, 2) := by decide +kernel
theorem dX10_settles_69 : decode cX10_settles 69 = .ok (.iload_n 1, 1) := by decide +kernel
theorem dX10_settles_70 : decode cX10_settles 70 = .ok (.if_icmp .ge 88, 3) := by decide +kernel
theorem dX10_settles_73 : decode cX10_settles 73 = .ok (.iload 4, 2) := by decide +kernel
theorem dX10_settles_75 : decode cX10_settles 75 = .ok (.iload_n 3, 1) := by decide +kernel
theorem dX10_settles_76 : decode cX10_settles 76 = .ok (.iand, 1) := by decide +kernel
theorem dX10_settles_77 : decode cX10_settles 77 = .ok (.istore 5, 2) := by decide +kernel
theorem dX10_settles_79 : decode cX10_settles 79 = .ok (.aload_n 0, 1) := by decide +kernel
theorem dX10_settles_80 : decode cX10_settles 80 = .ok (.getfield 71, 3) := by decide +kernel
theorem dX10_settles_83 : decode cX10_settles 83 = .ok (.iload 4, 2) := by decide +kernel
theorem dX10_settles_85 : decode cX10_settles 85 = .ok (.iaload, 1) := by decide +kernel
theorem dX10_settles_86 : decode cX10_settles 86 = .ok (.ifCond .eq 32, 3) := by decide +kernel
theorem dX10_settles_89 : decode cX10_settles 89 = .ok (.aload_n 0, 1) := by decide +kernel
theorem dX10_settles_90 : decode cX10_settles 90 = .ok (.getfield 74, 3) := by decide +kernel
theorem dX10_settles_93 : decode cX10_settles 93 = .ok (.iload 5, 2) := by decide +kernel
theorem dX10_settles_95 : decode cX10_settles 95 = .ok (.iaload, 1) := by decide +kernel
theorem dX10_settles_96 : decode cX10_settles 96 = .ok (.ifCond .eq 22, 3) := by decide +kernel
theorem dX10_settles_99 : decode cX10_settles 99 = .ok (.aload_n 0, 1) := by decide +kernel
theorem dX10_settles_100 : decode cX10_settles 100 = .ok (.getfield 74, 3) := by decide +kernel
theorem dX10_settles_103 : decode cX10_settles 103 = .ok (.iload 5, 2) := by decide +kernel
theorem dX10_settles_105 : decode cX10_settles 105 = .ok (.iaload, 1) := by decide +kernel
theorem dX10_settles_106 : decode cX10_settles 106 = .ok (.aload_n 0, 1) := by decide +kernel
theorem dX10_settles_107 : decode cX10_settles 107 = .ok (.getfield 71, 3) := by decide +kernel
theorem dX10_settles_110 : decode cX10_settles 110 = .ok (.iload 4, 2) := by decide +kernel
theorem dX10_settles_112 : decode cX10_settles 112 = .ok (.iaload, 1) := by decide +kernel
theorem dX10_settles_113 : decode cX10_settles 113 = .ok (.if_icmp .eq 5, 3) := by decide +kernel
theorem dX10_settles_116 : decode cX10_settles 116 = .ok (.iconst 0, 1) := by decide +kernel
theorem dX10_settles_117 : decode cX10_settles 117 = .ok (.ireturn, 1) := by decide +kernel
theorem dX10_settles_118 : decode cX10_settles 118 = .ok (.aload_n 0, 1) := by decide +kernel
theorem dX10_settles_119 : decode cX10_settles 119 = .ok (.getfield 74, 3) := by decide +kernel
theorem dX10_settles_122 : decode cX10_settles 122 = .ok (.iload 5, 2) := by decide +kernel
theorem dX10_settles_124 : decode cX10_settles 124 = .ok (.aload_n 0, 1) := by decide +kernel
theorem dX10_settles_125 : decode cX10_settles 125 = .ok (.getfield 71, 3) := by decide +kernel
theorem dX10_settles_128 : decode cX10_settles 128 = .ok (.iload 4, 2) := by decide +kernel
theorem dX10_settles_130 : decode cX10_settles 130 = .ok (.iaload, 1) := by decide +kernel
theorem dX10_settles_131 : decode cX10_settles 131 = .ok (.ifCond .eq 13, 3) := by decide +kernel
theorem dX10_settles_134 : decode cX10_settles 134 = .ok (.aload_n 0, 1) := by decide +kernel
theorem dX10_settles_135 : decode cX10_settles 135 = .ok (.getfield 71, 3) := by decide +kernel
theorem dX10_settles_138 : decode cX10_settles 138 = .ok (.iload 4, 2) := by decide +kernel
theorem dX10_settles_140 : decode cX10_settles 140 = .ok (.iaload, 1) := by decide +kernel
theorem dX10_settles_141 : decode cX10_settles 141 = .ok (.goto 10, 3) := by decide +kernel
theorem dX10_settles_144 : decode cX10_settles 144 = .ok (.aload_n 0, 1) := by decide +kernel
theorem dX10_settles_145 : decode cX10_settles 145 = .ok (.getfield 74, 3) := by decide +kernel
theorem dX10_settles_148 : decode cX10_settles 148 = .ok (.iload 5, 2) := by decide +kernel
theorem dX10_settles_150 : decode cX10_settles 150 = .ok (.iaload, 1) := by decide +kernel
theorem dX10_settles_151 : decode cX10_settles 151 = .ok (.iastore, 1) := by decide +kernel
theorem dX10_settles_152 : decode cX10_settles 152 = .ok (.iinc 4 1, 3) := by decide +kernel
theorem dX10_settles_155 : decode cX10_settles 155 = .ok (.goto (-88), 3) := by decide +kernel
theorem dX10_settles_158 : decode cX10_settles 158 = .ok (.iconst 1, 1) := by decide +kernel
theorem dX10_settles_159 : decode cX10_settles 159 = .ok (.ireturn, 1) := by decide +kernel
theorem dX10_settling_0 : decode cX10_settling 0 = .ok (.aload_n 0, 1) := by decide +kernel
theorem dX10_settling_1 : decode cX10_settling 1 = .ok (.iload_n 1, 1) := by decide +kernel
theorem dX10_settling_2 : decode cX10_settling 2 = .ok (.invokevirtual 232, 3) := by decide +kernel
theorem dX10_settling_5 : decode cX10_settling 5 = .ok (.ifCond .eq 12, 3) := by decide +kernel
theorem dX10_settling_8 : decode cX10_settling 8 = .ok (.iload_n 2, 1) := by decide +kernel
theorem dX10_settling_9 : decode cX10_settling 9 = .ok (.iconst 0, 1) := by decide +kernel
theorem dX10_settling_10 : decode cX10_settling 10 = .ok (.iconst 1, 1) := by decide +kernel
theorem dX10_settling_11 : decode cX10_settling 11 = .ok (.invokestatic 117, 3) := by decide +kernel
theorem dX10_settling_14 : decode cX10_settling 14 = .ok (.ifCond .ne 6, 3) := by decide +kernel
theorem dX10_settling_17 : decode cX10_settling 17 = .ok (.bipush (-2), 2) := by decide +kernel
theorem dX10_settling_19 : decode cX10_settling 19 = .ok (.ireturn, 1) := by decide +kernel
theorem dX10_settling_20 : decode cX10_settling 20 = .ok (.aload_n 0, 1) := by decide +kernel
theorem dX10_settling_21 : decode cX10_settling 21 = .ok (.iload_n 1, 1) := by decide +kernel
theorem dX10_settling_22 : decode cX10_settling 22 = .ok (.invokevirtual 262, 3) := by decide +kernel
theorem dX10_settling_25 : decode cX10_settling 25 = .ok (.istore_n 3, 1) := by decide +kernel
theorem dX10_settling_26 : decode cX10_settling 26 = .ok (.iconst 0, 1) := by decide +kernel
theorem dX10_settling_27 : decode cX10_settling 27 = .ok (.istore 4, 2) := by decide +kernel
theorem dX10_settling_29 : decode cX10_settling 29 = .ok (.iconst 0, 1) := by decide +kernel
theorem dX10_settling_30 : decode cX10_settling 30 = .ok (.istore 5, 2) := by decide +kernel
theorem dX10_settling_32 : decode cX10_settling 32 = .ok (.iload 5, 2) := by decide +kernel
theorem dX10_settling_34 : decode cX10_settling 34 = .ok (.iload_n 3, 1) := by decide +kernel
theorem dX10_settling_35 : decode cX10_settling 35 = .ok (.if_icmp .ge 35, 3) := by decide +kernel
theorem dX10_settling_38 : decode cX10_settling 38 = .ok (.aload_n 0, 1) := by decide +kernel
theorem dX10_settling_39 : decode cX10_settling 39 = .ok (.getfield 71, 3) := by decide +kernel
theorem dX10_settling_42 : decode cX10_settling 42 = .ok (.iload 5, 2) := by decide +kernel
theorem dX10_settling_44 : decode cX10_settling 44 = .ok (.aload_n 0, 1) := by decide +kernel
theorem dX10_settling_45 : decode cX10_settling 45 = .ok (.iload_n 1, 1) := by decide +kernel
theorem dX10_settling_46 : decode cX10_settling 46 = .ok (.iload 5, 2) := by decide +kernel
theorem dX10_settling_48 : decode cX10_settling 48 = .ok (.invokevirtual 265, 3) := by decide +kernel
theorem dX10_settling_51 : decode cX10_settling 51 = .ok (.iastore, 1) := by decide +kernel
theorem dX10_settling_52 : decode cX10_settling 52 = .ok (.iload 4, 2) := by decide +kernel
theorem dX10_settling_54 : decode cX10_settling 54 = .ok (.aload_n 0, 1) := by decide +kernel
theorem dX10_settling_55 : decode cX10_settling 55 = .ok (.getfield 71, 3) := by decide +kernel
theorem dX10_settling_58 : decode cX10_settling 58 = .ok (.iload 5, 2) := by decide +kernel
theorem dX10_settling_60 : decode cX10_settling 60 = .ok (.iaload, 1) := by decide +kernel
theorem dX10_settling_61 : decode cX10_settling 61 = .ok (.ior, 1) := by decide +kernel
theorem dX10_settling_62 : decode cX10_settling 62 = .ok (.istore 4, 2) := by decide +kernel
theorem dX10_settling_64 : decode cX10_settling 64 = .ok (.iinc 5 1, 3) := by decide +kernel
theorem dX10_settling_67 : decode cX10_settling 67 = .ok (.goto (-35), 3) := by decide +kernel
theorem dX10_settling_70 : decode cX10_settling 70 = .ok (.iload 4, 2) := by decide +kernel
theorem dX10_settling_72 : decode cX10_settling 72 = .ok (.ifCond .ne 6, 3) := by decide +kernel
theorem dX10_settling_75 : decode cX10_settling 75 = .ok (.bipush (-3), 2) := by decide +kernel
theorem dX10_settling_77 : decode cX10_settling 77 = .ok (.ireturn, 1) := by decide +kernel
theorem dX10_settling_78 : decode cX10_settling 78 = .ok (.iconst (-1), 1) := by decide +kernel
theorem dX10_settling_79 : decode cX10_settling 79 = .ok (.istore 5, 2) := by decide +kernel
theorem dX10_settling_81 : decode cX10_settling 81 = .ok (.iconst 0, 1) := by decide +kernel
theorem dX10_settling_82 : decode cX10_settling 82 = .ok (.istore 6, 2) := by decide +kernel
theorem dX10_settling_84 : decode cX10_settling 84 = .ok (.iload 6, 2) := by decide +kernel
theorem dX10_settling_86 : decode cX10_settling 86 = .ok (.iconst 1, 1) := by decide +kernel
theorem dX10_settling_87 : decode cX10_settling 87 = .ok (.aload_n 0, 1) := by decide +kernel
theorem dX10_settling_88 : decode cX10_settling 88 = .ok (.iload_n 1, 1) := by decide +kernel
theorem dX10_settling_89 : decode cX10_settling 89 = .ok (.invokevirtual 238, 3) := by decide +kernel
theorem dX10_settling_92 : decode cX10_settling 92 = .ok (.ishl, 1) := by decide +kernel
theorem dX10_settling_93 : decode cX10_settling 93 = .ok (.if_icmp .ge 47, 3) := by decide +kernel
theorem dX10_settling_96 : decode cX10_settling 96 = .ok (.iload 5, 2) := by decide +kernel
theorem dX10_settling_98 : decode cX10_settling 98 = .ok (.iconst (-1), 1) := by decide +kernel
theorem dX10_settling_99 : decode cX10_settling 99 = .ok (.if_icmp .eq 16, 3) := by decide +kernel
theorem dX10_settling_102 : decode cX10_settling 102 = .ok (.iload 6, 2) := by decide +kernel
theorem dX10_settling_104 : decode cX10_settling 104 = .ok (.invokestatic 226, 3) := by decide +kernel
theorem dX10_settling_107 : decode cX10_settling 107 = .ok (.iload 5, 2) := by decide +kernel
theorem dX10_settling_109 : decode cX10_settling 109 = .ok (.invokestatic 226, 3) := by decide +kernel
theorem dX10_settling_112 : decode cX10_settling 112 = .ok (.if_icmp .ge 18, 3) := by decide +kernel
theorem dX10_settling_115 : decode cX10_settling 115 = .ok (.aload_n 0, 1) := by decide +kernel
theorem dX10_settling_116 : decode cX10_settling 116 = .ok (.iload_n 3, 1) := by decide +kernel
theorem dX10_settling_117 : decode cX10_settling 117 = .ok (.iload 6, 2) := by decide +kernel
theorem dX10_settling_119 : decode cX10_settling 119 = .ok (.invokevirtual 268, 3) := by decide +kernel
theorem dX10_settling_122 : decode cX10_settling 122 = .ok (.ifCond .eq 8, 3) := by decide +kernel
theorem dX10_settling_125 : decode cX10_settling 125 = .ok (.iload 6, 2) := by decide +kernel
theorem dX10_settling_127 : decode cX10_settling 127 = .ok (.goto 5, 3) := by decide +kernel
theorem dX10_settling_130 : decode cX10_settling 130 = .ok (.iload 5, 2) := by decide +kernel
theorem dX10_settling_132 : decode cX10_settling 132 = .ok (.istore 5, 2) := by decide +kernel
theorem dX10_settling_134 : decode cX10_settling 134 = .ok (.iinc 6 1, 3) := by decide +kernel
theorem dX10_settling_137 : decode cX10_settling 137 = .ok (.goto (-53), 3) := by decide +kernel
theorem dX10_settling_140 : decode cX10_settling 140 = .ok (.iload_n 2, 1) := by decide +kernel
theorem dX10_settling_141 : decode cX10_settling 141 = .ok (.ifCond .ne 8, 3) := by decide +kernel
theorem dX10_settling_144 : decode cX10_settling 144 = .ok (.iload 5, 2) := by decide +kernel
theorem dX10_settling_146 : decode cX10_settling 146 = .ok (.goto 15, 3) := by decide +kernel
theorem dX10_settling_149 : decode cX10_settling 149 = .ok (.iload 5, 2) := by decide +kernel
theorem dX10_settling_151 : decode cX10_settling 151 = .ok (.invokestatic 226, 3) := by decide +kernel
theorem dX10_settling_154 : decode cX10_settling 154 = .ok (.aload_n 0, 1) := by decide +kernel
theorem dX10_settling_155 : decode cX10_settling 155 = .ok (.getfield 59, 3) := by decide +kernel
theorem dX10_settling_158 : decode cX10_settling 158 = .ok (.iload_n 1, 1) := by decide +kernel
theorem dX10_settling_159 : decode cX10_settling 159 = .ok (.iaload, 1) := by decide +kernel
theorem dX10_settling_160 : decode cX10_settling 160 = .ok (.imul, 1) := by decide +kernel
theorem dX10_settling_161 : decode cX10_settling 161 = .ok (.ireturn, 1) := by decide +kernel
theorem dX10_comesIn_0 : decode cX10_comesIn 0 = .ok (.iconst 0, 1) := by decide +kernel
theorem dX10_comesIn_1 : decode cX10_comesIn 1 = .ok (.istore 4, 2) := by decide +kernel
theorem dX10_comesIn_3 : decode cX10_comesIn 3 = .ok (.iload 4, 2) := by decide +kernel
theorem dX10_comesIn_5 : decode cX10_comesIn 5 = .ok (.iload_n 3, 1) := by decide +kernel
theorem dX10_comesIn_6 : decode cX10_comesIn 6 = .ok (.iadd, 1) := by decide +kernel
theorem dX10_comesIn_7 : decode cX10_comesIn 7 = .ok (.aload_n 0, 1) := by decide +kernel
theorem dX10_comesIn_8 : decode cX10_comesIn 8 = .ok (.getfield 47, 3) := by decide +kernel
theorem dX10_comesIn_11 : decode cX10_comesIn 11 = .ok (.iload_n 1, 1) := by decide +kernel
theorem dX10_comesIn_12 : decode cX10_comesIn 12 = .ok (.iaload, 1) := by decide +kernel
theorem dX10_comesIn_13 : decode cX10_comesIn 13 = .ok (.if_icmp .gt 95, 3) := by decide +kernel
theorem dX10_comesIn_16 : decode cX10_comesIn 16 = .ok (.iconst 1, 1) := by decide +kernel
theorem dX10_comesIn_17 : decode cX10_comesIn 17 = .ok (.istore 5, 2) := by decide +kernel
theorem dX10_comesIn_19 : decode cX10_comesIn 19 = .ok (.iconst 0, 1) := by decide +kernel
theorem dX10_comesIn_20 : decode cX10_comesIn 20 = .ok (.istore 6, 2) := by decide +kernel
theorem dX10_comesIn_22 : decode cX10_comesIn 22 = .ok (.iload 6, 2) := by decide +kernel
theorem dX10_comesIn_24 : decode cX10_comesIn 24 = .ok (.iload_n 3, 1) := by decide +kernel
theorem dX10_comesIn_25 : decode cX10_comesIn 25 = .ok (.if_icmp .ge 70, 3) := by decide +kernel
theorem dX10_comesIn_28 : decode cX10_comesIn 28 = .ok (.aload_n 0, 1) := by decide +kernel
theorem dX10_comesIn_29 : decode cX10_comesIn 29 = .ok (.getfield 50, 3) := by decide +kernel
theorem dX10_comesIn_32 : decode cX10_comesIn 32 = .ok (.bipush 12, 2) := by decide +kernel
theorem dX10_comesIn_34 : decode cX10_comesIn 34 = .ok (.iload_n 1, 1) := by decide +kernel
theorem dX10_comesIn_35 : decode cX10_comesIn 35 = .ok (.imul, 1) := by decide +kernel
theorem dX10_comesIn_36 : decode cX10_comesIn 36 = .ok (.iload 4, 2) := by decide +kernel
theorem dX10_comesIn_38 : decode cX10_comesIn 38 = .ok (.iadd, 1) := by decide +kernel
theorem dX10_comesIn_39 : decode cX10_comesIn 39 = .ok (.iload 6, 2) := by decide +kernel
theorem dX10_comesIn_41 : decode cX10_comesIn 41 = .ok (.iadd, 1) := by decide +kernel
theorem dX10_comesIn_42 : decode cX10_comesIn 42 = .ok (.iaload, 1) := by decide +kernel
theorem dX10_comesIn_43 : decode cX10_comesIn 43 = .ok (.istore 7, 2) := by decide +kernel
theorem dX10_comesIn_45 : decode cX10_comesIn 45 = .ok (.iload 5, 2) := by decide +kernel
theorem dX10_comesIn_47 : decode cX10_comesIn 47 = .ok (.ifCond .eq 39, 3) := by decide +kernel
theorem dX10_comesIn_50 : decode cX10_comesIn 50 = .ok (.iload 7, 2) := by decide +kernel
theorem dX10_comesIn_52 : decode cX10_comesIn 52 = .ok (.iconst (-1), 1) := by decide +kernel
theorem dX10_comesIn_53 : decode cX10_comesIn 53 = .ok (.if_icmp .eq 29, 3) := by decide +kernel
theorem dX10_comesIn_56 : decode cX10_comesIn 56 = .ok (.iload 7, 2) := by decide +kernel
theorem dX10_comesIn_58 : decode cX10_comesIn 58 = .ok (.aload_n 0, 1) := by decide +kernel
theorem dX10_comesIn_59 : decode cX10_comesIn 59 = .ok (.getfield 50, 3) := by decide +kernel
theorem dX10_comesIn_62 : decode cX10_comesIn 62 = .ok (.bipush 12, 2) := by decide +kernel
theorem dX10_comesIn_64 : decode cX10_comesIn 64 = .ok (.iload_n 2, 1) := by decide +kernel
theorem dX10_comesIn_65 : decode cX10_comesIn 65 = .ok (.imul, 1) := by decide +kernel
theorem dX10_comesIn_66 : decode cX10_comesIn 66 = .ok (.aload_n 0, 1) := by decide +kernel
theorem dX10_comesIn_67 : decode cX10_comesIn 67 = .ok (.getfield 47, 3) := by decide +kernel
theorem dX10_comesIn_70 : decode cX10_comesIn 70 = .ok (.iload_n 2, 1) := by decide +kernel
theorem dX10_comesIn_71 : decode cX10_comesIn 71 = .ok (.iaload, 1) := by decide +kernel
theorem dX10_comesIn_72 : decode cX10_comesIn 72 = .ok (.iadd, 1) := by decide +kernel
theorem dX10_comesIn_73 : decode cX10_comesIn 73 = .ok (.iload_n 3, 1) := by decide +kernel
theorem dX10_comesIn_74 : decode cX10_comesIn 74 = .ok (.isub, 1) := by decide +kernel
theorem dX10_comesIn_75 : decode cX10_comesIn 75 = .ok (.iload 6, 2) := by decide +kernel
theorem dX10_comesIn_77 : decode cX10_comesIn 77 = .ok (.iadd, 1) := by decide +kernel
theorem dX10_comesIn_78 : decode cX10_comesIn 78 = .ok (.iaload, 1) := by decide +kernel
theorem dX10_comesIn_79 : decode cX10_comesIn 79 = .ok (.if_icmp .ne 7, 3) := by decide +kernel
theorem dX10_comesIn_82 : decode cX10_comesIn 82 = .ok (.iconst 1, 1) := by decide +kernel
theorem dX10_comesIn_83 : decode cX10_comesIn 83 = .ok (.goto 4, 3) := by decide +kernel
theorem dX10_comesIn_86 : decode cX10_comesIn 86 = .ok (.iconst 0, 1) := by decide +kernel
theorem dX10_comesIn_87 : decode cX10_comesIn 87 = .ok (.istore 5, 2) := by decide +kernel
theorem dX10_comesIn_89 : decode cX10_comesIn 89 = .ok (.iinc 6 1, 3) := by decide +kernel
theorem dX10_comesIn_92 : decode cX10_comesIn 92 = .ok (.goto (-70), 3) := by decide +kernel
theorem dX10_comesIn_95 : decode cX10_comesIn 95 = .ok (.iload 5, 2) := by decide +kernel
theorem dX10_comesIn_97 : decode cX10_comesIn 97 = .ok (.ifCond .eq 5, 3) := by decide +kernel
theorem dX10_comesIn_100 : decode cX10_comesIn 100 = .ok (.iconst 1, 1) := by decide +kernel
theorem dX10_comesIn_101 : decode cX10_comesIn 101 = .ok (.ireturn, 1) := by decide +kernel
theorem dX10_comesIn_102 : decode cX10_comesIn 102 = .ok (.iinc 4 1, 3) := by decide +kernel
theorem dX10_comesIn_105 : decode cX10_comesIn 105 = .ok (.goto (-102), 3) := by decide +kernel
theorem dX10_comesIn_108 : decode cX10_comesIn 108 = .ok (.iconst 0, 1) := by decide +kernel
theorem dX10_comesIn_109 : decode cX10_comesIn 109 = .ok (.ireturn, 1) := by decide +kernel
theorem dX10_like_0 : decode cX10_like 0 = .ok (.aload_n 0, 1) := by decide +kernel
theorem dX10_like_1 : decode cX10_like 1 = .ok (.iload_n 1, 1) := by decide +kernel
theorem dX10_like_2 : decode cX10_like 2 = .ok (.invokevirtual 232, 3) := by decide +kernel
theorem dX10_like_5 : decode cX10_like 5 = .ok (.ifCond .eq 23, 3) := by decide +kernel
theorem dX10_like_8 : decode cX10_like 8 = .ok (.iload_n 2, 1) := by decide +kernel
theorem dX10_like_9 : decode cX10_like 9 = .ok (.iconst 1, 1) := by decide +kernel
theorem dX10_like_10 : decode cX10_like 10 = .ok (.bipush 12, 2) := by decide +kernel
theorem dX10_like_12 : decode cX10_like 12 = .ok (.invokestatic 117, 3) := by decide +kernel
theorem dX10_like_15 : decode cX10_like 15 = .ok (.ifCond .eq 13, 3) := by decide +kernel
theorem dX10_like_18 : decode cX10_like 18 = .ok (.iload_n 2, 1) := by decide +kernel
theorem dX10_like_19 : decode cX10_like 19 = .ok (.aload_n 0, 1) := by decide +kernel
theorem dX10_like_20 : decode cX10_like 20 = .ok (.getfield 47, 3) := by decide +kernel
theorem dX10_like_23 : decode cX10_like 23 = .ok (.iload_n 1, 1) := by decide +kernel
theorem dX10_like_24 : decode cX10_like 24 = .ok (.iaload, 1) := by decide +kernel
theorem dX10_like_25 : decode cX10_like 25 = .ok (.if_icmp .le 6, 3) := by decide +kernel
theorem dX10_like_28 : decode cX10_like 28 = .ok (.bipush (-2), 2) := by decide +kernel
theorem dX10_like_30 : decode cX10_like 30 = .ok (.ireturn, 1) := by decide +kernel
theorem dX10_like_31 : decode cX10_like 31 = .ok (.iconst 1, 1) := by decide +kernel
theorem dX10_like_32 : decode cX10_like 32 = .ok (.istore_n 3, 1) := by decide +kernel
theorem dX10_like_33 : decode cX10_like 33 = .ok (.iload_n 3, 1) := by decide +kernel
theorem dX10_like_34 : decode cX10_like 34 = .ok (.iload_n 2, 1) := by decide +kernel
theorem dX10_like_35 : decode cX10_like 35 = .ok (.if_icmp .gt 34, 3) := by decide +kernel
theorem dX10_like_38 : decode cX10_like 38 = .ok (.aload_n 0, 1) := by decide +kernel
theorem dX10_like_39 : decode cX10_like 39 = .ok (.getfield 50, 3) := by decide +kernel
theorem dX10_like_42 : decode cX10_like 42 = .ok (.bipush 12, 2) := by decide +kernel
theorem dX10_like_44 : decode cX10_like 44 = .ok (.iload_n 1, 1) := by decide +kernel
theorem dX10_like_45 : decode cX10_like 45 = .ok (.imul, 1) := by decide +kernel
theorem dX10_like_46 : decode cX10_like 46 = .ok (.aload_n 0, 1) := by decide +kernel
theorem dX10_like_47 : decode cX10_like 47 = .ok (.getfield 47, 3) := by decide +kernel
theorem dX10_like_50 : decode cX10_like 50 = .ok (.iload_n 1, 1) := by decide +kernel
theorem dX10_like_51 : decode cX10_like 51 = .ok (.iaload, 1) := by decide +kernel
theorem dX10_like_52 : decode cX10_like 52 = .ok (.iadd, 1) := by decide +kernel
theorem dX10_like_53 : decode cX10_like 53 = .ok (.iload_n 3, 1) := by decide +kernel
theorem dX10_like_54 : decode cX10_like 54 = .ok (.isub, 1) := by decide +kernel
theorem dX10_like_55 : decode cX10_like 55 = .ok (.iaload, 1) := by decide +kernel
theorem dX10_like_56 : decode cX10_like 56 = .ok (.iconst (-1), 1) := by decide +kernel
theorem dX10_like_57 : decode cX10_like 57 = .ok (.if_icmp .ne 6, 3) := by decide +kernel
theorem dX10_like_60 : decode cX10_like 60 = .ok (.bipush (-3), 2) := by decide +kernel
theorem dX10_like_62 : decode cX10_like 62 = .ok (.ireturn, 1) := by decide +kernel
theorem dX10_like_63 : decode cX10_like 63 = .ok (.iinc 3 1, 3) := by decide +kernel
theorem dX10_like_66 : decode cX10_like 66 = .ok (.goto (-33), 3) := by decide +kernel
theorem dX10_like_69 : decode cX10_like 69 = .ok (.iconst 0, 1) := by decide +kernel
theorem dX10_like_70 : decode cX10_like 70 = .ok (.istore_n 3, 1) := by decide +kernel
theorem dX10_like_71 : decode cX10_like 71 = .ok (.iconst 0, 1) := by decide +kernel
theorem dX10_like_72 : decode cX10_like 72 = .ok (.istore 4, 2) := by decide +kernel
theorem dX10_like_74 : decode cX10_like 74 = .ok (.iload 4, 2) := by decide +kernel
theorem dX10_like_76 : decode cX10_like 76 = .ok (.aload_n 0, 1) := by decide +kernel
theorem dX10_like_77 : decode cX10_like 77 = .ok (.getfield 229, 3) := by decide +kernel
theorem dX10_like_80 : decode cX10_like 80 = .ok (.if_icmp .ge 53, 3) := by decide +kernel
theorem dX10_like_83 : decode cX10_like 83 = .ok (.iload_n 3, 1) := by decide +kernel
theorem dX10_like_84 : decode cX10_like 84 = .ok (.iload 4, 2) := by decide +kernel
theorem dX10_like_86 : decode cX10_like 86 = .ok (.iload_n 1, 1) := by decide +kernel
theorem dX10_like_87 : decode cX10_like 87 = .ok (.if_icmp .eq 37, 3) := by decide +kernel
theorem dX10_like_90 : decode cX10_like 90 = .ok (.aload_n 0, 1) := by decide +kernel
theorem dX10_like_91 : decode cX10_like 91 = .ok (.getfield 44, 3) := by decide +kernel
theorem dX10_like_94 : decode cX10_like 94 = .ok (.iload 4, 2) := by decide +kernel
theorem dX10_like_96 : decode cX10_like 96 = .ok (.iaload, 1) := by decide +kernel
theorem dX10_like_97 : decode cX10_like 97 = .ok (.aload_n 0, 1) := by decide +kernel
theorem dX10_like_98 : decode cX10_like 98 = .ok (.getfield 44, 3) := by decide +kernel
theorem dX10_like_101 : decode cX10_like 101 = .ok (.iload_n 1, 1) := by decide +kernel
theorem dX10_like_102 : decode cX10_like 102 = .ok (.iaload, 1) := by decide +kernel
theorem dX10_like_103 : decode cX10_like 103 = .ok (.if_icmp .ne 21, 3) := by decide +kernel
theorem dX10_like_106 : decode cX10_like 106 = .ok (.aload_n 0, 1) := by decide +kernel
theorem dX10_like_107 : decode cX10_like 107 = .ok (.iload 4, 2) := by decide +kernel
theorem dX10_like_109 : decode cX10_like 109 = .ok (.iload_n 1, 1) := by decide +kernel
theorem dX10_like_110 : decode cX10_like 110 = .ok (.iload_n 2, 1) := by decide +kernel
theorem dX10_like_111 : decode cX10_like 111 = .ok (.invokevirtual 271, 3) := by decide +kernel
theorem dX10_like_114 : decode cX10_like 114 = .ok (.ifCond .eq 10, 3) := by decide +kernel
theorem dX10_like_117 : decode cX10_like 117 = .ok (.iconst 1, 1) := by decide +kernel
theorem dX10_like_118 : decode cX10_like 118 = .ok (.iload 4, 2) := by decide +kernel
theorem dX10_like_120 : decode cX10_like 120 = .ok (.ishl, 1) := by decide +kernel
theorem dX10_like_121 : decode cX10_like 121 = .ok (.goto 4, 3) := by decide +kernel
theorem dX10_like_124 : decode cX10_like 124 = .ok (.iconst 0, 1) := by decide +kernel
theorem dX10_like_125 : decode cX10_like 125 = .ok (.ior, 1) := by decide +kernel
theorem dX10_like_126 : decode cX10_like 126 = .ok (.istore_n 3, 1) := by decide +kernel
theorem dX10_like_127 : decode cX10_like 127 = .ok (.iinc 4 1, 3) := by decide +kernel
theorem dX10_like_130 : decode cX10_like 130 = .ok (.goto (-56), 3) := by decide +kernel
theorem dX10_like_133 : decode cX10_like 133 = .ok (.iload_n 3, 1) := by decide +kernel
theorem dX10_like_134 : decode cX10_like 134 = .ok (.ireturn, 1) := by decide +kernel
theorem dX10_pay_0 : decode cX10_pay 0 = .ok (.aload_n 0, 1) := by decide +kernel
theorem dX10_pay_1 : decode cX10_pay 1 = .ok (.iload_n 1, 1) := by decide +kernel
theorem dX10_pay_2 : decode cX10_pay 2 = .ok (.invokevirtual 232, 3) := by decide +kernel
theorem dX10_pay_5 : decode cX10_pay 5 = .ok (.ifCond .eq 25, 3) := by decide +kernel
theorem dX10_pay_8 : decode cX10_pay 8 = .ok (.iload_n 2, 1) := by decide +kernel
theorem dX10_pay_9 : decode cX10_pay 9 = .ok (.iconst 0, 1) := by decide +kernel
theorem dX10_pay_10 : decode cX10_pay 10 = .ok (.sipush 399, 3) := by decide +kernel
theorem dX10_pay_13 : decode cX10_pay 13 = .ok (.invokestatic 117, 3) := by decide +kernel
theorem dX10_pay_16 : decode cX10_pay 16 = .ok (.ifCond .eq 14, 3) := by decide +kernel
theorem dX10_pay_19 : decode cX10_pay 19 = .ok (.iload_n 3, 1) := by decide +kernel
theorem dX10_pay_20 : decode cX10_pay 20 = .ok (.iconst 1, 1) := by decide +kernel
theorem dX10_pay_21 : decode cX10_pay 21 = .ok (.sipush 1000, 3) := by decide +kernel
theorem dX10_pay_24 : decode cX10_pay 24 = .ok (.invokestatic 117, 3) := by decide +kernel
theorem dX10_pay_27 : decode cX10_pay 27 = .ok (.ifCond .ne 6, 3) := by decide +kernel
theorem dX10_pay_30 : decode cX10_pay 30 = .ok (.bipush (-2), 2) := by decide +kernel
theorem dX10_pay_32 : decode cX10_pay 32 = .ok (.ireturn, 1) := by decide +kernel
theorem dX10_pay_33 : decode cX10_pay 33 = .ok (.aload_n 0, 1) := by decide +kernel
theorem dX10_pay_34 : decode cX10_pay 34 = .ok (.getfield 274, 3) := by decide +kernel
theorem dX10_pay_37 : decode cX10_pay 37 = .ok (.bipush 40, 2) := by decide +kernel
theorem dX10_pay_39 : decode cX10_pay 39 = .ok (.if_icmp .ne 6, 3) := by decide +kernel
theorem dX10_pay_42 : decode cX10_pay 42 = .ok (.bipush (-4), 2) := by decide +kernel
theorem dX10_pay_44 : decode cX10_pay 44 = .ok (.ireturn, 1) := by decide +kernel
theorem dX10_pay_45 : decode cX10_pay 45 = .ok (.aload_n 0, 1) := by decide +kernel
theorem dX10_pay_46 : decode cX10_pay 46 = .ok (.getfield 77, 3) := by decide +kernel
theorem dX10_pay_49 : decode cX10_pay 49 = .ok (.aload_n 0, 1) := by decide +kernel
theorem dX10_pay_50 : decode cX10_pay 50 = .ok (.getfield 274, 3) := by decide +kernel
theorem dX10_pay_53 : decode cX10_pay 53 = .ok (.iload_n 1, 1) := by decide +kernel
theorem dX10_pay_54 : decode cX10_pay 54 = .ok (.iastore, 1) := by decide +kernel
theorem dX10_pay_55 : decode cX10_pay 55 = .ok (.aload_n 0, 1) := by decide +kernel
theorem dX10_pay_56 : decode cX10_pay 56 = .ok (.getfield 80, 3) := by decide +kernel
theorem dX10_pay_59 : decode cX10_pay 59 = .ok (.aload_n 0, 1) := by decide +kernel
theorem dX10_pay_60 : decode cX10_pay 60 = .ok (.getfield 274, 3) := by decide +kernel
theorem dX10_pay_63 : decode cX10_pay 63 = .ok (.iload_n 2, 1) := by decide +kernel
theorem dX10_pay_64 : decode cX10_pay 64 = .ok (.iastore, 1) := by decide +kernel
theorem dX10_pay_65 : decode cX10_pay 65 = .ok (.aload_n 0, 1) := by decide +kernel
theorem dX10_pay_66 : decode cX10_pay 66 = .ok (.getfield 83, 3) := by decide +kernel
theorem dX10_pay_69 : decode cX10_pay 69 = .ok (.aload_n 0, 1) := by decide +kernel
theorem dX10_pay_70 : decode cX10_pay 70 = .ok (.getfield 274, 3) := by decide +kernel
theorem dX10_pay_73 : decode cX10_pay 73 = .ok (.iload_n 3, 1) := by decide +kernel
theorem dX10_pay_74 : decode cX10_pay 74 = .ok (.iastore, 1) := by decide +kernel
theorem dX10_pay_75 : decode cX10_pay 75 = .ok (.aload_n 0, 1) := by decide +kernel
theorem dX10_pay_76 : decode cX10_pay 76 = .ok (.dup, 1) := by decide +kernel
theorem dX10_pay_77 : decode cX10_pay 77 = .ok (.getfield 274, 3) := by decide +kernel
theorem dX10_pay_80 : decode cX10_pay 80 = .ok (.iconst 1, 1) := by decide +kernel
theorem dX10_pay_81 : decode cX10_pay 81 = .ok (.iadd, 1) := by decide +kernel
theorem dX10_pay_82 : decode cX10_pay 82 = .ok (.putfield 274, 3) := by decide +kernel
theorem dX10_pay_85 : decode cX10_pay 85 = .ok (.aload_n 0, 1) := by decide +kernel
theorem dX10_pay_86 : decode cX10_pay 86 = .ok (.getfield 274, 3) := by decide +kernel
theorem dX10_pay_89 : decode cX10_pay 89 = .ok (.ireturn, 1) := by decide +kernel
theorem dX10_interest_0 : decode cX10_interest 0 = .ok (.iload_n 1, 1) := by decide +kernel
theorem dX10_interest_1 : decode cX10_interest 1 = .ok (.iconst 0, 1) := by decide +kernel
theorem dX10_interest_2 : decode cX10_interest 2 = .ok (.bipush 100, 2) := by decide +kernel
theorem dX10_interest_4 : decode cX10_interest 4 = .ok (.invokestatic 117, 3) := by decide +kernel
theorem dX10_interest_7 : decode cX10_interest 7 = .ok (.ifCond .ne 6, 3) := by decide +kernel
theorem dX10_interest_10 : decode cX10_interest 10 = .ok (.bipush (-2), 2) := by decide +kernel
theorem dX10_interest_12 : decode cX10_interest 12 = .ok (.ireturn, 1) := by decide +kernel
theorem dX10_interest_13 : decode cX10_interest 13 = .ok (.aload_n 0, 1) := by decide +kernel
theorem dX10_interest_14 : decode cX10_interest 14 = .ok (.getfield 86, 3) := by decide +kernel
theorem dX10_interest_17 : decode cX10_interest 17 = .ok (.istore_n 2, 1) := by decide +kernel
theorem dX10_interest_18 : decode cX10_interest 18 = .ok (.aload_n 0, 1) := by decide +kernel
theorem dX10_interest_19 : decode cX10_interest 19 = .ok (.iload_n 1, 1) := by decide +kernel
theorem dX10_interest_20 : decode cX10_interest 20 = .ok (.putfield 86, 3) := by decide +kernel
theorem dX10_interest_23 : decode cX10_interest 23 = .ok (.iload_n 2, 1) := by decide +kernel
theorem dX10_interest_24 : decode cX10_interest 24 = .ok (.ireturn, 1) := by decide +kernel
theorem dX10_isOwed_0 : decode cX10_isOwed 0 = .ok (.aload_n 0, 1) := by decide +kernel
theorem dX10_isOwed_1 : decode cX10_isOwed 1 = .ok (.iload_n 1, 1) := by decide +kernel
theorem dX10_isOwed_2 : decode cX10_isOwed 2 = .ok (.invokevirtual 241, 3) := by decide +kernel
theorem dX10_isOwed_5 : decode cX10_isOwed 5 = .ok (.ifCond .ne 5, 3) := by decide +kernel
theorem dX10_isOwed_8 : decode cX10_isOwed 8 = .ok (.iconst 0, 1) := by decide +kernel
theorem dX10_isOwed_9 : decode cX10_isOwed 9 = .ok (.ireturn, 1) := by decide +kernel
theorem dX10_isOwed_10 : decode cX10_isOwed 10 = .ok (.iconst 0, 1) := by decide +kernel
theorem dX10_isOwed_11 : decode cX10_isOwed 11 = .ok (.istore_n 2, 1) := by decide +kernel
theorem dX10_isOwed_12 : decode cX10_isOwed 12 = .ok (.iload_n 2, 1) := by decide +kernel
theorem dX10_isOwed_13 : decode cX10_isOwed 13 = .ok (.aload_n 0, 1) := by decide +kernel
theorem dX10_isOwed_14 : decode cX10_isOwed 14 = .ok (.iload_n 1, 1) := by decide +kernel
theorem dX10_isOwed_15 : decode cX10_isOwed 15 = .ok (.invokevirtual 262, 3) := by decide +kernel
theorem dX10_isOwed_18 : decode cX10_isOwed 18 = .ok (.if_icmp .ge 20, 3) := by decide +kernel
theorem dX10_isOwed_21 : decode cX10_isOwed 21 = .ok (.aload_n 0, 1) := by decide +kernel
theorem dX10_isOwed_22 : decode cX10_isOwed 22 = .ok (.iload_n 1, 1) := by decide +kernel
theorem dX10_isOwed_23 : decode cX10_isOwed 23 = .ok (.iload_n 2, 1) := by decide +kernel
theorem dX10_isOwed_24 : decode cX10_isOwed 24 = .ok (.invokevirtual 253, 3) := by decide +kernel
theorem dX10_isOwed_27 : decode cX10_isOwed 27 = .ok (.ifCond .eq 5, 3) := by decide +kernel
theorem dX10_isOwed_30 : decode cX10_isOwed 30 = .ok (.iconst 1, 1) := by decide +kernel
theorem dX10_isOwed_31 : decode cX10_isOwed 31 = .ok (.ireturn, 1) := by decide +kernel
theorem dX10_isOwed_32 : decode cX10_isOwed 32 = .ok (.iinc 2 1, 3) := by decide +kernel
theorem dX10_isOwed_35 : decode cX10_isOwed 35 = .ok (.goto (-23), 3) := by decide +kernel
theorem dX10_isOwed_38 : decode cX10_isOwed 38 = .ok (.iconst 0, 1) := by decide +kernel
theorem dX10_isOwed_39 : decode cX10_isOwed 39 = .ok (.ireturn, 1) := by decide +kernel
theorem dX10_owedOn_0 : decode cX10_owedOn 0 = .ok (.aload_n 0, 1) := by decide +kernel
theorem dX10_owedOn_1 : decode cX10_owedOn 1 = .ok (.iload_n 1, 1) := by decide +kernel
theorem dX10_owedOn_2 : decode cX10_owedOn 2 = .ok (.invokevirtual 277, 3) := by decide +kernel
theorem dX10_owedOn_5 : decode cX10_owedOn 5 = .ok (.ifCond .ne 5, 3) := by decide +kernel
theorem dX10_owedOn_8 : decode cX10_owedOn 8 = .ok (.iconst 0, 1) := by decide +kernel
theorem dX10_owedOn_9 : decode cX10_owedOn 9 = .ok (.ireturn, 1) := by decide +kernel
theorem dX10_owedOn_10 : decode cX10_owedOn 10 = .ok (.iconst 0, 1) := by decide +kernel
theorem dX10_owedOn_11 : decode cX10_owedOn 11 = .ok (.istore_n 3, 1) := by decide +kernel
theorem dX10_owedOn_12 : decode cX10_owedOn 12 = .ok (.iconst 0, 1) := by decide +kernel
theorem dX10_owedOn_13 : decode cX10_owedOn 13 = .ok (.istore 4, 2) := by decide +kernel
theorem dX10_owedOn_15 : decode cX10_owedOn 15 = .ok (.iload 4, 2) := by decide +kernel
theorem dX10_owedOn_17 : decode cX10_owedOn 17 = .ok (.aload_n 0, 1) := by decide +kernel
theorem dX10_owedOn_18 : decode cX10_owedOn 18 = .ok (.getfield 274, 3) := by decide +kernel
theorem dX10_owedOn_21 : decode cX10_owedOn 21 = .ok (.if_icmp .ge 71, 3) := by decide +kernel
theorem dX10_owedOn_24 : decode cX10_owedOn 24 = .ok (.aload_n 0, 1) := by decide +kernel
theorem dX10_owedOn_25 : decode cX10_owedOn 25 = .ok (.getfield 77, 3) := by decide +kernel
theorem dX10_owedOn_28 : decode cX10_owedOn 28 = .ok (.iload 4, 2) := by decide +kernel
theorem dX10_owedOn_30 : decode cX10_owedOn 30 = .ok (.iaload, 1) := by decide +kernel
theorem dX10_owedOn_31 : decode cX10_owedOn 31 = .ok (.iload_n 1, 1) := by decide +kernel
theorem dX10_owedOn_32 : decode cX10_owedOn 32 = .ok (.if_icmp .ne 54, 3) := by decide +kernel
theorem dX10_owedOn_35 : decode cX10_owedOn 35 = .ok (.aload_n 0, 1) := by decide +kernel
theorem dX10_owedOn_36 : decode cX10_owedOn 36 = .ok (.getfield 80, 3) := by decide +kernel
theorem dX10_owedOn_39 : decode cX10_owedOn 39 = .ok (.iload 4, 2) := by decide +kernel
theorem dX10_owedOn_41 : decode cX10_owedOn 41 = .ok (.iaload, 1) := by decide +kernel
theorem dX10_owedOn_42 : decode cX10_owedOn 42 = .ok (.iload_n 2, 1) := by decide +kernel
theorem dX10_owedOn_43 : decode cX10_owedOn 43 = .ok (.if_icmp .gt 43, 3) := by decide +kernel
theorem dX10_owedOn_46 : decode cX10_owedOn 46 = .ok (.iload_n 3, 1) := by decide +kernel
theorem dX10_owedOn_47 : decode cX10_owedOn 47 = .ok (.aload_n 0, 1) := by decide +kernel
theorem dX10_owedOn_48 : decode cX10_owedOn 48 = .ok (.getfield 83, 3) := by decide +kernel
theorem dX10_owedOn_51 : decode cX10_owedOn 51 = .ok (.iload 4, 2) := by decide +kernel
theorem dX10_owedOn_53 : decode cX10_owedOn 53 = .ok (.iaload, 1) := by decide +kernel
theorem dX10_owedOn_54 : decode cX10_owedOn 54 = .ok (.aload_n 0, 1) := by decide +kernel
theorem dX10_owedOn_55 : decode cX10_owedOn 55 = .ok (.getfield 83, 3) := by decide +kernel
theorem dX10_owedOn_58 : decode cX10_owedOn 58 = .ok (.iload 4, 2) := by decide +kernel
theorem dX10_owedOn_60 : decode cX10_owedOn 60 = .ok (.iaload, 1) := by decide +kernel
theorem dX10_owedOn_61 : decode cX10_owedOn 61 = .ok (.aload_n 0, 1) := by decide +kernel
theorem dX10_owedOn_62 : decode cX10_owedOn 62 = .ok (.getfield 86, 3) := by decide +kernel
theorem dX10_owedOn_65 : decode cX10_owedOn 65 = .ok (.imul, 1) := by decide +kernel
theorem dX10_owedOn_66 : decode cX10_owedOn 66 = .ok (.iload_n 2, 1) := by decide +kernel
theorem dX10_owedOn_67 : decode cX10_owedOn 67 = .ok (.aload_n 0, 1) := by decide +kernel
theorem dX10_owedOn_68 : decode cX10_owedOn 68 = .ok (.getfield 80, 3) := by decide +kernel
theorem dX10_owedOn_71 : decode cX10_owedOn 71 = .ok (.iload 4, 2) := by decide +kernel
theorem dX10_owedOn_73 : decode cX10_owedOn 73 = .ok (.iaload, 1) := by decide +kernel
theorem dX10_owedOn_74 : decode cX10_owedOn 74 = .ok (.isub, 1) := by decide +kernel
theorem dX10_owedOn_75 : decode cX10_owedOn 75 = .ok (.bipush 10, 2) := by decide +kernel
theorem dX10_owedOn_77 : decode cX10_owedOn 77 = .ok (.idiv, 1) := by decide +kernel
theorem dX10_owedOn_78 : decode cX10_owedOn 78 = .ok (.imul, 1) := by decide +kernel
theorem dX10_owedOn_79 : decode cX10_owedOn 79 = .ok (.sipush 1000, 3) := by decide +kernel
theorem dX10_owedOn_82 : decode cX10_owedOn 82 = .ok (.idiv, 1) := by decide +kernel
theorem dX10_owedOn_83 : decode cX10_owedOn 83 = .ok (.iadd, 1) := by decide +kernel
theorem dX10_owedOn_84 : decode cX10_owedOn 84 = .ok (.iadd, 1) := by decide +kernel
theorem dX10_owedOn_85 : decode cX10_owedOn 85 = .ok (.istore_n 3, 1) := by decide +kernel
theorem dX10_owedOn_86 : decode cX10_owedOn 86 = .ok (.iinc 4 1, 3) := by decide +kernel
theorem dX10_owedOn_89 : decode cX10_owedOn 89 = .ok (.goto (-74), 3) := by decide +kernel
theorem dX10_owedOn_92 : decode cX10_owedOn 92 = .ok (.iload_n 3, 1) := by decide +kernel
theorem dX10_owedOn_93 : decode cX10_owedOn 93 = .ok (.ireturn, 1) := by decide +kernel
theorem dX10_owedAll_0 : decode cX10_owedAll 0 = .ok (.iconst 0, 1) := by decide +kernel
theorem dX10_owedAll_1 : decode cX10_owedAll 1 = .ok (.istore_n 2, 1) := by decide +kernel
theorem dX10_owedAll_2 : decode cX10_owedAll 2 = .ok (.iconst 0, 1) := by decide +kernel
theorem dX10_owedAll_3 : decode cX10_owedAll 3 = .ok (.istore_n 3, 1) := by decide +kernel
theorem dX10_owedAll_4 : decode cX10_owedAll 4 = .ok (.iload_n 3, 1) := by decide +kernel
theorem dX10_owedAll_5 : decode cX10_owedAll 5 = .ok (.aload_n 0, 1) := by decide +kernel
theorem dX10_owedAll_6 : decode cX10_owedAll 6 = .ok (.getfield 229, 3) := by decide +kernel
theorem dX10_owedAll_9 : decode cX10_owedAll 9 = .ok (.if_icmp .ge 18, 3) := by decide +kernel
theorem dX10_owedAll_12 : decode cX10_owedAll 12 = .ok (.iload_n 2, 1) := by decide +kernel
theorem dX10_owedAll_13 : decode cX10_owedAll 13 = .ok (.aload_n 0, 1) := by decide +kernel
theorem dX10_owedAll_14 : decode cX10_owedAll 14 = .ok (.iload_n 3, 1) := by decide +kernel
theorem dX10_owedAll_15 : decode cX10_owedAll 15 = .ok (.iload_n 1, 1) := by decide +kernel
theorem dX10_owedAll_16 : decode cX10_owedAll 16 = .ok (.invokevirtual 280, 3) := by decide +kernel
theorem dX10_owedAll_19 : decode cX10_owedAll 19 = .ok (.iadd, 1) := by decide +kernel
theorem dX10_owedAll_20 : decode cX10_owedAll 20 = .ok (.istore_n 2, 1) := by decide +kernel
theorem dX10_owedAll_21 : decode cX10_owedAll 21 = .ok (.iinc 3 1, 3) := by decide +kernel
theorem dX10_owedAll_24 : decode cX10_owedAll 24 = .ok (.goto (-20), 3) := by decide +kernel
theorem dX10_owedAll_27 : decode cX10_owedAll 27 = .ok (.iload_n 2, 1) := by decide +kernel
theorem dX10_owedAll_28 : decode cX10_owedAll 28 = .ok (.ireturn, 1) := by decide +kernel
theorem dX10_owed_0 : decode cX10_owed 0 = .ok (.iload_n 1, 1) := by decide +kernel
theorem dX10_owed_1 : decode cX10_owed 1 = .ok (.iconst (-1), 1) := by decide +kernel
theorem dX10_owed_2 : decode cX10_owed 2 = .ok (.if_icmp .eq 11, 3) := by decide +kernel
theorem dX10_owed_5 : decode cX10_owed 5 = .ok (.aload_n 0, 1) := by decide +kernel
theorem dX10_owed_6 : decode cX10_owed 6 = .ok (.iload_n 1, 1) := by decide +kernel
theorem dX10_owed_7 : decode cX10_owed 7 = .ok (.invokevirtual 232, 3) := by decide +kernel
theorem dX10_owed_10 : decode cX10_owed 10 = .ok (.ifCond .eq 14, 3) := by decide +kernel
theorem dX10_owed_13 : decode cX10_owed 13 = .ok (.iload_n 2, 1) := by decide +kernel
theorem dX10_owed_14 : decode cX10_owed 14 = .ok (.iconst 0, 1) := by decide +kernel
theorem dX10_owed_15 : decode cX10_owed 15 = .ok (.sipush 399, 3) := by decide +kernel
theorem dX10_owed_18 : decode cX10_owed 18 = .ok (.invokestatic 117, 3) := by decide +kernel
theorem dX10_owed_21 : decode cX10_owed 21 = .ok (.ifCond .ne 6, 3) := by decide +kernel
theorem dX10_owed_24 : decode cX10_owed 24 = .ok (.bipush (-2), 2) := by decide +kernel
theorem dX10_owed_26 : decode cX10_owed 26 = .ok (.ireturn, 1) := by decide +kernel
theorem dX10_owed_27 : decode cX10_owed 27 = .ok (.iload_n 1, 1) := by decide +kernel
theorem dX10_owed_28 : decode cX10_owed 28 = .ok (.iconst (-1), 1) := by decide +kernel
theorem dX10_owed_29 : decode cX10_owed 29 = .ok (.if_icmp .ne 11, 3) := by decide +kernel
theorem dX10_owed_32 : decode cX10_owed 32 = .ok (.aload_n 0, 1) := by decide +kernel
theorem dX10_owed_33 : decode cX10_owed 33 = .ok (.iload_n 2, 1) := by decide +kernel
theorem dX10_owed_34 : decode cX10_owed 34 = .ok (.invokevirtual 283, 3) := by decide +kernel
theorem dX10_owed_37 : decode cX10_owed 37 = .ok (.goto 9, 3) := by decide +kernel
theorem dX10_owed_40 : decode cX10_owed 40 = .ok (.aload_n 0, 1) := by decide +kernel
theorem dX10_owed_41 : decode cX10_owed 41 = .ok (.iload_n 1, 1) := by decide +kernel
theorem dX10_owed_42 : decode cX10_owed 42 = .ok (.iload_n 2, 1) := by decide +kernel
theorem dX10_owed_43 : decode cX10_owed 43 = .ok (.invokevirtual 280, 3) := by decide +kernel
theorem dX10_owed_46 : decode cX10_owed 46 = .ok (.ireturn, 1) := by decide +kernel
theorem dX10_judgment_0 : decode cX10_judgment 0 = .ok (.iload_n 1, 1) := by decide +kernel
theorem dX10_judgment_1 : decode cX10_judgment 1 = .ok (.iconst 0, 1) := by decide +kernel
theorem dX10_judgment_2 : decode cX10_judgment 2 = .ok (.ldc_w 286, 3) := by decide +kernel
theorem dX10_judgment_5 : decode cX10_judgment 5 = .ok (.invokestatic 117, 3) := by decide +kernel
theorem dX10_judgment_8 : decode cX10_judgment 8 = .ok (.ifCond .eq 14, 3) := by decide +kernel
theorem dX10_judgment_11 : decode cX10_judgment 11 = .ok (.iload_n 2, 1) := by decide +kernel
theorem dX10_judgment_12 : decode cX10_judgment 12 = .ok (.iconst 0, 1) := by decide +kernel
theorem dX10_judgment_13 : decode cX10_judgment 13 = .ok (.ldc_w 286, 3) := by decide +kernel
theorem dX10_judgment_16 : decode cX10_judgment 16 = .ok (.invokestatic 117, 3) := by decide +kernel
theorem dX10_judgment_19 : decode cX10_judgment 19 = .ok (.ifCond .ne 6, 3) := by decide +kernel
theorem dX10_judgment_22 : decode cX10_judgment 22 = .ok (.bipush (-2), 2) := by decide +kernel
theorem dX10_judgment_24 : decode cX10_judgment 24 = .ok (.ireturn, 1) := by decide +kernel
theorem dX10_judgment_25 : decode cX10_judgment 25 = .ok (.aload_n 0, 1) := by decide +kernel
theorem dX10_judgment_26 : decode cX10_judgment 26 = .ok (.getfield 287, 3) := by decide +kernel
theorem dX10_judgment_29 : decode cX10_judgment 29 = .ok (.bipush 16, 2) := by decide +kernel
theorem dX10_judgment_31 : decode cX10_judgment 31 = .ok (.if_icmp .ne 6, 3) := by decide +kernel
theorem dX10_judgment_34 : decode cX10_judgment 34 = .ok (.bipush (-4), 2) := by decide +kernel
theorem dX10_judgment_36 : decode cX10_judgment 36 = .ok (.ireturn, 1) := by decide +kernel
theorem dX10_judgment_37 : decode cX10_judgment 37 = .ok (.aload_n 0, 1) := by decide +kernel
theorem dX10_judgment_38 : decode cX10_judgment 38 = .ok (.getfield 90, 3) := by decide +kernel
theorem dX10_judgment_41 : decode cX10_judgment 41 = .ok (.aload_n 0, 1) := by decide +kernel
theorem dX10_judgment_42 : decode cX10_judgment 42 = .ok (.getfield 287, 3) := by decide +kernel
theorem dX10_judgment_45 : decode cX10_judgment 45 = .ok (.iload_n 1, 1) := by decide +kernel
theorem dX10_judgment_46 : decode cX10_judgment 46 = .ok (.iastore, 1) := by decide +kernel
theorem dX10_judgment_47 : decode cX10_judgment 47 = .ok (.aload_n 0, 1) := by decide +kernel
theorem dX10_judgment_48 : decode cX10_judgment 48 = .ok (.getfield 93, 3) := by decide +kernel
theorem dX10_judgment_51 : decode cX10_judgment 51 = .ok (.aload_n 0, 1) := by decide +kernel
theorem dX10_judgment_52 : decode cX10_judgment 52 = .ok (.getfield 287, 3) := by decide +kernel
theorem dX10_judgment_55 : decode cX10_judgment 55 = .ok (.iload_n 2, 1) := by decide +kernel
theorem dX10_judgment_56 : decode cX10_judgment 56 = .ok (.iastore, 1) := by decide +kernel
theorem dX10_judgment_57 : decode cX10_judgment 57 = .ok (.aload_n 0, 1) := by decide +kernel
theorem dX10_judgment_58 : decode cX10_judgment 58 = .ok (.dup, 1) := by decide +kernel
theorem dX10_judgment_59 : decode cX10_judgment 59 = .ok (.getfield 287, 3) := by decide +kernel
theorem dX10_judgment_62 : decode cX10_judgment 62 = .ok (.iconst 1, 1) := by decide +kernel
theorem dX10_judgment_63 : decode cX10_judgment 63 = .ok (.iadd, 1) := by decide +kernel
theorem dX10_judgment_64 : decode cX10_judgment 64 = .ok (.putfield 287, 3) := by decide +kernel
theorem dX10_judgment_67 : decode cX10_judgment 67 = .ok (.aload_n 0, 1) := by decide +kernel
theorem dX10_judgment_68 : decode cX10_judgment 68 = .ok (.getfield 287, 3) := by decide +kernel
theorem dX10_judgment_71 : decode cX10_judgment 71 = .ok (.iconst 1, 1) := by decide +kernel
theorem dX10_judgment_72 : decode cX10_judgment 72 = .ok (.isub, 1) := by decide +kernel
theorem dX10_judgment_73 : decode cX10_judgment 73 = .ok (.ireturn, 1) := by decide +kernel
theorem dX10_ground_0 : decode cX10_ground 0 = .ok (.iload_n 1, 1) := by decide +kernel
theorem dX10_ground_1 : decode cX10_ground 1 = .ok (.iconst 0, 1) := by decide +kernel
theorem dX10_ground_2 : decode cX10_ground 2 = .ok (.bipush 7, 2) := by decide +kernel
theorem dX10_ground_4 : decode cX10_ground 4 = .ok (.invokestatic 117, 3) := by decide +kernel
theorem dX10_ground_7 : decode cX10_ground 7 = .ok (.ifCond .ne 6, 3) := by decide +kernel
theorem dX10_ground_10 : decode cX10_ground 10 = .ok (.bipush (-2), 2) := by decide +kernel
theorem dX10_ground_12 : decode cX10_ground 12 = .ok (.ireturn, 1) := by decide +kernel
theorem dX10_ground_13 : decode cX10_ground 13 = .ok (.aload_n 0, 1) := by decide +kernel
theorem dX10_ground_14 : decode cX10_ground 14 = .ok (.getfield 96, 3) := by decide +kernel
theorem dX10_ground_17 : decode cX10_ground 17 = .ok (.iload_n 1, 1) := by decide +kernel
theorem dX10_ground_18 : decode cX10_ground 18 = .ok (.ishr, 1) := by decide +kernel
theorem dX10_ground_19 : decode cX10_ground 19 = .ok (.iconst 1, 1) := by decide +kernel
theorem dX10_ground_20 : decode cX10_ground 20 = .ok (.iand, 1) := by decide +kernel
theorem dX10_ground_21 : decode cX10_ground 21 = .ok (.iconst 1, 1) := by decide +kernel
theorem dX10_ground_22 : decode cX10_ground 22 = .ok (.if_icmp .ne 7, 3) := by decide +kernel
theorem dX10_ground_25 : decode cX10_ground 25 = .ok (.iconst 1, 1) := by decide +kernel
theorem dX10_ground_26 : decode cX10_ground 26 = .ok (.goto 4, 3) := by decide +kernel
theorem dX10_ground_29 : decode cX10_ground 29 = .ok (.iconst 0, 1) := by decide +kernel
theorem dX10_ground_30 : decode cX10_ground 30 = .ok (.iload_n 2, 1) := by decide +kernel
theorem dX10_ground_31 : decode cX10_ground 31 = .ok (.if_icmp .ne 7, 3) := by decide +kernel
theorem dX10_ground_34 : decode cX10_ground 34 = .ok (.iconst 1, 1) := by decide +kernel
theorem dX10_ground_35 : decode cX10_ground 35 = .ok (.goto 4, 3) := by decide +kernel
theorem dX10_ground_38 : decode cX10_ground 38 = .ok (.iconst 0, 1) := by decide +kernel
theorem dX10_ground_39 : decode cX10_ground 39 = .ok (.istore_n 3, 1) := by decide +kernel
theorem dX10_ground_40 : decode cX10_ground 40 = .ok (.aload_n 0, 1) := by decide +kernel
theorem dX10_ground_41 : decode cX10_ground 41 = .ok (.iload_n 2, 1) := by decide +kernel
theorem dX10_ground_42 : decode cX10_ground 42 = .ok (.ifCond .eq 14, 3) := by decide +kernel
theorem dX10_ground_45 : decode cX10_ground 45 = .ok (.aload_n 0, 1) := by decide +kernel
