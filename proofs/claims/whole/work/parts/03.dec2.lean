theorem dX8_findFault_57 : decode cX8_findFault 57 = .ok (.ireturn, 1) := by decide +kernel
theorem dX8_stepBehind_0 : decode cX8_stepBehind 0 = .ok (.iload_n 1, 1) := by decide +kernel
theorem dX8_stepBehind_1 : decode cX8_stepBehind 1 = .ok (.bipush 48, 2) := by decide +kernel
theorem dX8_stepBehind_3 : decode cX8_stepBehind 3 = .ok (.if_icmp .eq 9, 3) := by decide +kernel
theorem dX8_stepBehind_6 : decode cX8_stepBehind 6 = .ok (.iload_n 1, 1) := by decide +kernel
theorem dX8_stepBehind_7 : decode cX8_stepBehind 7 = .ok (.bipush 49, 2) := by decide +kernel
theorem dX8_stepBehind_9 : decode cX8_stepBehind 9 = .ok (.if_icmp .ne 7, 3) := by decide +kernel
theorem dX8_stepBehind_12 : decode cX8_stepBehind 12 = .ok (.iconst 1, 1) := by decide +kernel
theorem dX8_stepBehind_13 : decode cX8_stepBehind 13 = .ok (.goto 4, 3) := by decide +kernel
theorem dX8_stepBehind_16 : decode cX8_stepBehind 16 = .ok (.iconst 0, 1) := by decide +kernel
theorem dX8_stepBehind_17 : decode cX8_stepBehind 17 = .ok (.istore_n 2, 1) := by decide +kernel
theorem dX8_stepBehind_18 : decode cX8_stepBehind 18 = .ok (.ldc 61, 2) := by decide +kernel
theorem dX8_stepBehind_20 : decode cX8_stepBehind 20 = .ok (.iload_n 1, 1) := by decide +kernel
theorem dX8_stepBehind_21 : decode cX8_stepBehind 21 = .ok (.i2c, 1) := by decide +kernel
theorem dX8_stepBehind_22 : decode cX8_stepBehind 22 = .ok (.invokevirtual 63, 3) := by decide +kernel
theorem dX8_stepBehind_25 : decode cX8_stepBehind 25 = .ok (.ifCond .lt 7, 3) := by decide +kernel
theorem dX8_stepBehind_28 : decode cX8_stepBehind 28 = .ok (.iconst 1, 1) := by decide +kernel
theorem dX8_stepBehind_29 : decode cX8_stepBehind 29 = .ok (.goto 4, 3) := by decide +kernel
theorem dX8_stepBehind_32 : decode cX8_stepBehind 32 = .ok (.iconst 0, 1) := by decide +kernel
theorem dX8_stepBehind_33 : decode cX8_stepBehind 33 = .ok (.istore_n 3, 1) := by decide +kernel
theorem dX8_stepBehind_34 : decode cX8_stepBehind 34 = .ok (.iload_n 0, 1) := by decide +kernel
theorem dX8_stepBehind_35 : decode cX8_stepBehind 35 = .ok (.tableswitch 150 0 6 #[41, 57, 67, 79, 100, 116, 139], 41) := by decide +kernel
theorem dX8_stepBehind_76 : decode cX8_stepBehind 76 = .ok (.ldc 69, 2) := by decide +kernel
theorem dX8_stepBehind_78 : decode cX8_stepBehind 78 = .ok (.iload_n 1, 1) := by decide +kernel
theorem dX8_stepBehind_79 : decode cX8_stepBehind 79 = .ok (.i2c, 1) := by decide +kernel
theorem dX8_stepBehind_80 : decode cX8_stepBehind 80 = .ok (.invokevirtual 63, 3) := by decide +kernel
theorem dX8_stepBehind_83 : decode cX8_stepBehind 83 = .ok (.ifCond .lt 7, 3) := by decide +kernel
theorem dX8_stepBehind_86 : decode cX8_stepBehind 86 = .ok (.iconst 1, 1) := by decide +kernel
theorem dX8_stepBehind_87 : decode cX8_stepBehind 87 = .ok (.goto 4, 3) := by decide +kernel
theorem dX8_stepBehind_90 : decode cX8_stepBehind 90 = .ok (.iconst (-1), 1) := by decide +kernel
theorem dX8_stepBehind_91 : decode cX8_stepBehind 91 = .ok (.ireturn, 1) := by decide +kernel
theorem dX8_stepBehind_92 : decode cX8_stepBehind 92 = .ok (.iload_n 2, 1) := by decide +kernel
theorem dX8_stepBehind_93 : decode cX8_stepBehind 93 = .ok (.ifCond .eq 7, 3) := by decide +kernel
theorem dX8_stepBehind_96 : decode cX8_stepBehind 96 = .ok (.iconst 2, 1) := by decide +kernel
theorem dX8_stepBehind_97 : decode cX8_stepBehind 97 = .ok (.goto 4, 3) := by decide +kernel
theorem dX8_stepBehind_100 : decode cX8_stepBehind 100 = .ok (.iconst (-1), 1) := by decide +kernel
theorem dX8_stepBehind_101 : decode cX8_stepBehind 101 = .ok (.ireturn, 1) := by decide +kernel
theorem dX8_stepBehind_102 : decode cX8_stepBehind 102 = .ok (.iload_n 1, 1) := by decide +kernel
theorem dX8_stepBehind_103 : decode cX8_stepBehind 103 = .ok (.bipush 58, 2) := by decide +kernel
theorem dX8_stepBehind_105 : decode cX8_stepBehind 105 = .ok (.if_icmp .ne 7, 3) := by decide +kernel
theorem dX8_stepBehind_108 : decode cX8_stepBehind 108 = .ok (.iconst 3, 1) := by decide +kernel
theorem dX8_stepBehind_109 : decode cX8_stepBehind 109 = .ok (.goto 4, 3) := by decide +kernel
theorem dX8_stepBehind_112 : decode cX8_stepBehind 112 = .ok (.iconst (-1), 1) := by decide +kernel
theorem dX8_stepBehind_113 : decode cX8_stepBehind 113 = .ok (.ireturn, 1) := by decide +kernel
theorem dX8_stepBehind_114 : decode cX8_stepBehind 114 = .ok (.iload_n 3, 1) := by decide +kernel
theorem dX8_stepBehind_115 : decode cX8_stepBehind 115 = .ok (.ifCond .eq 7, 3) := by decide +kernel
theorem dX8_stepBehind_118 : decode cX8_stepBehind 118 = .ok (.iconst 4, 1) := by decide +kernel
theorem dX8_stepBehind_119 : decode cX8_stepBehind 119 = .ok (.goto 15, 3) := by decide +kernel
theorem dX8_stepBehind_122 : decode cX8_stepBehind 122 = .ok (.iload_n 1, 1) := by decide +kernel
theorem dX8_stepBehind_123 : decode cX8_stepBehind 123 = .ok (.bipush 109, 2) := by decide +kernel
theorem dX8_stepBehind_125 : decode cX8_stepBehind 125 = .ok (.if_icmp .ne 8, 3) := by decide +kernel
theorem dX8_stepBehind_128 : decode cX8_stepBehind 128 = .ok (.bipush 6, 2) := by decide +kernel
theorem dX8_stepBehind_130 : decode cX8_stepBehind 130 = .ok (.goto 4, 3) := by decide +kernel
theorem dX8_stepBehind_133 : decode cX8_stepBehind 133 = .ok (.iconst (-1), 1) := by decide +kernel
theorem dX8_stepBehind_134 : decode cX8_stepBehind 134 = .ok (.ireturn, 1) := by decide +kernel
theorem dX8_stepBehind_135 : decode cX8_stepBehind 135 = .ok (.ldc 71, 2) := by decide +kernel
theorem dX8_stepBehind_137 : decode cX8_stepBehind 137 = .ok (.iload_n 1, 1) := by decide +kernel
theorem dX8_stepBehind_138 : decode cX8_stepBehind 138 = .ok (.i2c, 1) := by decide +kernel
theorem dX8_stepBehind_139 : decode cX8_stepBehind 139 = .ok (.invokevirtual 63, 3) := by decide +kernel
theorem dX8_stepBehind_142 : decode cX8_stepBehind 142 = .ok (.ifCond .lt 7, 3) := by decide +kernel
theorem dX8_stepBehind_145 : decode cX8_stepBehind 145 = .ok (.iconst 5, 1) := by decide +kernel
theorem dX8_stepBehind_146 : decode cX8_stepBehind 146 = .ok (.goto 4, 3) := by decide +kernel
theorem dX8_stepBehind_149 : decode cX8_stepBehind 149 = .ok (.iconst (-1), 1) := by decide +kernel
theorem dX8_stepBehind_150 : decode cX8_stepBehind 150 = .ok (.ireturn, 1) := by decide +kernel
theorem dX8_stepBehind_151 : decode cX8_stepBehind 151 = .ok (.iload_n 3, 1) := by decide +kernel
theorem dX8_stepBehind_152 : decode cX8_stepBehind 152 = .ok (.ifCond .ne 15, 3) := by decide +kernel
theorem dX8_stepBehind_155 : decode cX8_stepBehind 155 = .ok (.iload_n 1, 1) := by decide +kernel
theorem dX8_stepBehind_156 : decode cX8_stepBehind 156 = .ok (.bipush 48, 2) := by decide +kernel
theorem dX8_stepBehind_158 : decode cX8_stepBehind 158 = .ok (.if_icmp .lt 14, 3) := by decide +kernel
theorem dX8_stepBehind_161 : decode cX8_stepBehind 161 = .ok (.iload_n 1, 1) := by decide +kernel
theorem dX8_stepBehind_162 : decode cX8_stepBehind 162 = .ok (.bipush 57, 2) := by decide +kernel
theorem dX8_stepBehind_164 : decode cX8_stepBehind 164 = .ok (.if_icmp .gt 8, 3) := by decide +kernel
theorem dX8_stepBehind_167 : decode cX8_stepBehind 167 = .ok (.bipush 7, 2) := by decide +kernel
theorem dX8_stepBehind_169 : decode cX8_stepBehind 169 = .ok (.goto 4, 3) := by decide +kernel
theorem dX8_stepBehind_172 : decode cX8_stepBehind 172 = .ok (.iconst (-1), 1) := by decide +kernel
theorem dX8_stepBehind_173 : decode cX8_stepBehind 173 = .ok (.ireturn, 1) := by decide +kernel
theorem dX8_stepBehind_174 : decode cX8_stepBehind 174 = .ok (.iload_n 2, 1) := by decide +kernel
theorem dX8_stepBehind_175 : decode cX8_stepBehind 175 = .ok (.ifCond .eq 8, 3) := by decide +kernel
theorem dX8_stepBehind_178 : decode cX8_stepBehind 178 = .ok (.bipush 7, 2) := by decide +kernel
theorem dX8_stepBehind_180 : decode cX8_stepBehind 180 = .ok (.goto 4, 3) := by decide +kernel
theorem dX8_stepBehind_183 : decode cX8_stepBehind 183 = .ok (.iconst (-1), 1) := by decide +kernel
theorem dX8_stepBehind_184 : decode cX8_stepBehind 184 = .ok (.ireturn, 1) := by decide +kernel
theorem dX8_stepBehind_185 : decode cX8_stepBehind 185 = .ok (.iload_n 1, 1) := by decide +kernel
theorem dX8_stepBehind_186 : decode cX8_stepBehind 186 = .ok (.bipush 44, 2) := by decide +kernel
theorem dX8_stepBehind_188 : decode cX8_stepBehind 188 = .ok (.if_icmp .ne 7, 3) := by decide +kernel
theorem dX8_stepBehind_191 : decode cX8_stepBehind 191 = .ok (.iconst 3, 1) := by decide +kernel
theorem dX8_stepBehind_192 : decode cX8_stepBehind 192 = .ok (.goto 14, 3) := by decide +kernel
theorem dX8_stepBehind_195 : decode cX8_stepBehind 195 = .ok (.iload_n 1, 1) := by decide +kernel
theorem dX8_stepBehind_196 : decode cX8_stepBehind 196 = .ok (.bipush 59, 2) := by decide +kernel
theorem dX8_stepBehind_198 : decode cX8_stepBehind 198 = .ok (.if_icmp .ne 7, 3) := by decide +kernel
theorem dX8_stepBehind_201 : decode cX8_stepBehind 201 = .ok (.iconst 0, 1) := by decide +kernel
theorem dX8_stepBehind_202 : decode cX8_stepBehind 202 = .ok (.goto 4, 3) := by decide +kernel
theorem dX8_stepBehind_205 : decode cX8_stepBehind 205 = .ok (.iconst (-1), 1) := by decide +kernel
theorem dX8_stepBehind_206 : decode cX8_stepBehind 206 = .ok (.ireturn, 1) := by decide +kernel
theorem dX8_readLines_0 : decode cX8_readLines 0 = .ok (.iconst 0, 1) := by decide +kernel
theorem dX8_readLines_1 : decode cX8_readLines 1 = .ok (.istore_n 1, 1) := by decide +kernel
theorem dX8_readLines_2 : decode cX8_readLines 2 = .ok (.iconst 0, 1) := by decide +kernel
theorem dX8_readLines_3 : decode cX8_readLines 3 = .ok (.istore_n 2, 1) := by decide +kernel
theorem dX8_readLines_4 : decode cX8_readLines 4 = .ok (.iconst 0, 1) := by decide +kernel
theorem dX8_readLines_5 : decode cX8_readLines 5 = .ok (.istore_n 3, 1) := by decide +kernel
theorem dX8_readLines_6 : decode cX8_readLines 6 = .ok (.iconst 0, 1) := by decide +kernel
theorem dX8_readLines_7 : decode cX8_readLines 7 = .ok (.istore 4, 2) := by decide +kernel
theorem dX8_readLines_9 : decode cX8_readLines 9 = .ok (.iconst 0, 1) := by decide +kernel
theorem dX8_readLines_10 : decode cX8_readLines 10 = .ok (.istore 5, 2) := by decide +kernel
theorem dX8_readLines_12 : decode cX8_readLines 12 = .ok (.iload 5, 2) := by decide +kernel
theorem dX8_readLines_14 : decode cX8_readLines 14 = .ok (.aload_n 0, 1) := by decide +kernel
theorem dX8_readLines_15 : decode cX8_readLines 15 = .ok (.getfield 30, 3) := by decide +kernel
theorem dX8_readLines_18 : decode cX8_readLines 18 = .ok (.if_icmp .ge 208, 3) := by decide +kernel
theorem dX8_readLines_21 : decode cX8_readLines 21 = .ok (.aload_n 0, 1) := by decide +kernel
theorem dX8_readLines_22 : decode cX8_readLines 22 = .ok (.getfield 9, 3) := by decide +kernel
theorem dX8_readLines_25 : decode cX8_readLines 25 = .ok (.iload 5, 2) := by decide +kernel
theorem dX8_readLines_27 : decode cX8_readLines 27 = .ok (.iaload, 1) := by decide +kernel
theorem dX8_readLines_28 : decode cX8_readLines 28 = .ok (.istore 6, 2) := by decide +kernel
theorem dX8_readLines_30 : decode cX8_readLines 30 = .ok (.iload_n 1, 1) := by decide +kernel
theorem dX8_readLines_31 : decode cX8_readLines 31 = .ok (.tableswitch 182 0 6 #[41, 58, 68, 96, 125, 142, 142], 41) := by decide +kernel
theorem dX8_readLines_72 : decode cX8_readLines 72 = .ok (.ldc 69, 2) := by decide +kernel
theorem dX8_readLines_74 : decode cX8_readLines 74 = .ok (.iload 6, 2) := by decide +kernel
theorem dX8_readLines_76 : decode cX8_readLines 76 = .ok (.i2c, 1) := by decide +kernel
theorem dX8_readLines_77 : decode cX8_readLines 77 = .ok (.invokevirtual 63, 3) := by decide +kernel
theorem dX8_readLines_80 : decode cX8_readLines 80 = .ok (.bipush 7, 2) := by decide +kernel
theorem dX8_readLines_82 : decode cX8_readLines 82 = .ok (.iand, 1) := by decide +kernel
theorem dX8_readLines_83 : decode cX8_readLines 83 = .ok (.iconst 1, 1) := by decide +kernel
theorem dX8_readLines_84 : decode cX8_readLines 84 = .ok (.ishl, 1) := by decide +kernel
theorem dX8_readLines_85 : decode cX8_readLines 85 = .ok (.istore_n 2, 1) := by decide +kernel
theorem dX8_readLines_86 : decode cX8_readLines 86 = .ok (.goto 127, 3) := by decide +kernel
theorem dX8_readLines_89 : decode cX8_readLines 89 = .ok (.iload_n 2, 1) := by decide +kernel
theorem dX8_readLines_90 : decode cX8_readLines 90 = .ok (.iload 6, 2) := by decide +kernel
theorem dX8_readLines_92 : decode cX8_readLines 92 = .ok (.iconst 1, 1) := by decide +kernel
theorem dX8_readLines_93 : decode cX8_readLines 93 = .ok (.iand, 1) := by decide +kernel
theorem dX8_readLines_94 : decode cX8_readLines 94 = .ok (.ior, 1) := by decide +kernel
theorem dX8_readLines_95 : decode cX8_readLines 95 = .ok (.istore_n 2, 1) := by decide +kernel
theorem dX8_readLines_96 : decode cX8_readLines 96 = .ok (.goto 117, 3) := by decide +kernel
theorem dX8_readLines_99 : decode cX8_readLines 99 = .ok (.aload_n 0, 1) := by decide +kernel
theorem dX8_readLines_100 : decode cX8_readLines 100 = .ok (.getfield 21, 3) := by decide +kernel
theorem dX8_readLines_103 : decode cX8_readLines 103 = .ok (.iload_n 2, 1) := by decide +kernel
theorem dX8_readLines_104 : decode cX8_readLines 104 = .ok (.iconst 0, 1) := by decide +kernel
theorem dX8_readLines_105 : decode cX8_readLines 105 = .ok (.iastore, 1) := by decide +kernel
theorem dX8_readLines_106 : decode cX8_readLines 106 = .ok (.aload_n 0, 1) := by decide +kernel
theorem dX8_readLines_107 : decode cX8_readLines 107 = .ok (.getfield 18, 3) := by decide +kernel
theorem dX8_readLines_110 : decode cX8_readLines 110 = .ok (.iload_n 2, 1) := by decide +kernel
theorem dX8_readLines_111 : decode cX8_readLines 111 = .ok (.iload 4, 2) := by decide +kernel
theorem dX8_readLines_113 : decode cX8_readLines 113 = .ok (.iastore, 1) := by decide +kernel
theorem dX8_readLines_114 : decode cX8_readLines 114 = .ok (.aload_n 0, 1) := by decide +kernel
theorem dX8_readLines_115 : decode cX8_readLines 115 = .ok (.getfield 24, 3) := by decide +kernel
theorem dX8_readLines_118 : decode cX8_readLines 118 = .ok (.iload_n 2, 1) := by decide +kernel
theorem dX8_readLines_119 : decode cX8_readLines 119 = .ok (.iload 5, 2) := by decide +kernel
theorem dX8_readLines_121 : decode cX8_readLines 121 = .ok (.iconst 1, 1) := by decide +kernel
theorem dX8_readLines_122 : decode cX8_readLines 122 = .ok (.iadd, 1) := by decide +kernel
theorem dX8_readLines_123 : decode cX8_readLines 123 = .ok (.iastore, 1) := by decide +kernel
theorem dX8_readLines_124 : decode cX8_readLines 124 = .ok (.goto 89, 3) := by decide +kernel
theorem dX8_readLines_127 : decode cX8_readLines 127 = .ok (.iload 6, 2) := by decide +kernel
theorem dX8_readLines_129 : decode cX8_readLines 129 = .ok (.bipush 109, 2) := by decide +kernel
theorem dX8_readLines_131 : decode cX8_readLines 131 = .ok (.if_icmp .ne 9, 3) := by decide +kernel
theorem dX8_readLines_134 : decode cX8_readLines 134 = .ok (.sipush 192, 3) := by decide +kernel
theorem dX8_readLines_137 : decode cX8_readLines 137 = .ok (.goto 15, 3) := by decide +kernel
theorem dX8_readLines_140 : decode cX8_readLines 140 = .ok (.ldc 61, 2) := by decide +kernel
theorem dX8_readLines_142 : decode cX8_readLines 142 = .ok (.iload 6, 2) := by decide +kernel
theorem dX8_readLines_144 : decode cX8_readLines 144 = .ok (.i2c, 1) := by decide +kernel
theorem dX8_readLines_145 : decode cX8_readLines 145 = .ok (.invokevirtual 63, 3) := by decide +kernel
theorem dX8_readLines_148 : decode cX8_readLines 148 = .ok (.iconst 3, 1) := by decide +kernel
theorem dX8_readLines_149 : decode cX8_readLines 149 = .ok (.iand, 1) := by decide +kernel
theorem dX8_readLines_150 : decode cX8_readLines 150 = .ok (.iconst 4, 1) := by decide +kernel
theorem dX8_readLines_151 : decode cX8_readLines 151 = .ok (.ishl, 1) := by decide +kernel
theorem dX8_readLines_152 : decode cX8_readLines 152 = .ok (.istore_n 3, 1) := by decide +kernel
theorem dX8_readLines_153 : decode cX8_readLines 153 = .ok (.goto 60, 3) := by decide +kernel
theorem dX8_readLines_156 : decode cX8_readLines 156 = .ok (.iload_n 3, 1) := by decide +kernel
theorem dX8_readLines_157 : decode cX8_readLines 157 = .ok (.ldc 71, 2) := by decide +kernel
theorem dX8_readLines_159 : decode cX8_readLines 159 = .ok (.iload 6, 2) := by decide +kernel
theorem dX8_readLines_161 : decode cX8_readLines 161 = .ok (.i2c, 1) := by decide +kernel
theorem dX8_readLines_162 : decode cX8_readLines 162 = .ok (.invokevirtual 63, 3) := by decide +kernel
theorem dX8_readLines_165 : decode cX8_readLines 165 = .ok (.bipush 6, 2) := by decide +kernel
theorem dX8_readLines_167 : decode cX8_readLines 167 = .ok (.ishl, 1) := by decide +kernel
theorem dX8_readLines_168 : decode cX8_readLines 168 = .ok (.ior, 1) := by decide +kernel
theorem dX8_readLines_169 : decode cX8_readLines 169 = .ok (.istore_n 3, 1) := by decide +kernel
theorem dX8_readLines_170 : decode cX8_readLines 170 = .ok (.goto 43, 3) := by decide +kernel
theorem dX8_readLines_173 : decode cX8_readLines 173 = .ok (.aload_n 0, 1) := by decide +kernel
theorem dX8_readLines_174 : decode cX8_readLines 174 = .ok (.getfield 15, 3) := by decide +kernel
theorem dX8_readLines_177 : decode cX8_readLines 177 = .ok (.iload 4, 2) := by decide +kernel
theorem dX8_readLines_179 : decode cX8_readLines 179 = .ok (.iload_n 3, 1) := by decide +kernel
theorem dX8_readLines_180 : decode cX8_readLines 180 = .ok (.iload 6, 2) := by decide +kernel
theorem dX8_readLines_182 : decode cX8_readLines 182 = .ok (.invokestatic 73, 3) := by decide +kernel
theorem dX8_readLines_185 : decode cX8_readLines 185 = .ok (.ior, 1) := by decide +kernel
theorem dX8_readLines_186 : decode cX8_readLines 186 = .ok (.iastore, 1) := by decide +kernel
theorem dX8_readLines_187 : decode cX8_readLines 187 = .ok (.iinc 4 1, 3) := by decide +kernel
theorem dX8_readLines_190 : decode cX8_readLines 190 = .ok (.aload_n 0, 1) := by decide +kernel
theorem dX8_readLines_191 : decode cX8_readLines 191 = .ok (.getfield 21, 3) := by decide +kernel
theorem dX8_readLines_194 : decode cX8_readLines 194 = .ok (.iload_n 2, 1) := by decide +kernel
theorem dX8_readLines_195 : decode cX8_readLines 195 = .ok (.dup2, 1) := by decide +kernel
theorem dX8_readLines_196 : decode cX8_readLines 196 = .ok (.iaload, 1) := by decide +kernel
theorem dX8_readLines_197 : decode cX8_readLines 197 = .ok (.iconst 1, 1) := by decide +kernel
theorem dX8_readLines_198 : decode cX8_readLines 198 = .ok (.iadd, 1) := by decide +kernel
theorem dX8_readLines_199 : decode cX8_readLines 199 = .ok (.iastore, 1) := by decide +kernel
theorem dX8_readLines_200 : decode cX8_readLines 200 = .ok (.aload_n 0, 1) := by decide +kernel
theorem dX8_readLines_201 : decode cX8_readLines 201 = .ok (.getfield 27, 3) := by decide +kernel
theorem dX8_readLines_204 : decode cX8_readLines 204 = .ok (.iload_n 2, 1) := by decide +kernel
theorem dX8_readLines_205 : decode cX8_readLines 205 = .ok (.iload 5, 2) := by decide +kernel
theorem dX8_readLines_207 : decode cX8_readLines 207 = .ok (.iconst 1, 1) := by decide +kernel
theorem dX8_readLines_208 : decode cX8_readLines 208 = .ok (.iadd, 1) := by decide +kernel
theorem dX8_readLines_209 : decode cX8_readLines 209 = .ok (.iastore, 1) := by decide +kernel
theorem dX8_readLines_210 : decode cX8_readLines 210 = .ok (.goto 3, 3) := by decide +kernel
theorem dX8_readLines_213 : decode cX8_readLines 213 = .ok (.iload_n 1, 1) := by decide +kernel
theorem dX8_readLines_214 : decode cX8_readLines 214 = .ok (.iload 6, 2) := by decide +kernel
theorem dX8_readLines_216 : decode cX8_readLines 216 = .ok (.invokestatic 57, 3) := by decide +kernel
theorem dX8_readLines_219 : decode cX8_readLines 219 = .ok (.istore_n 1, 1) := by decide +kernel
theorem dX8_readLines_220 : decode cX8_readLines 220 = .ok (.iinc 5 1, 3) := by decide +kernel
theorem dX8_readLines_223 : decode cX8_readLines 223 = .ok (.goto (-211), 3) := by decide +kernel
theorem dX8_readLines_226 : decode cX8_readLines 226 = .ok (.return_, 1) := by decide +kernel
theorem dX8_valueOf_0 : decode cX8_valueOf 0 = .ok (.ldc 61, 2) := by decide +kernel
theorem dX8_valueOf_2 : decode cX8_valueOf 2 = .ok (.iload_n 0, 1) := by decide +kernel
theorem dX8_valueOf_3 : decode cX8_valueOf 3 = .ok (.i2c, 1) := by decide +kernel
theorem dX8_valueOf_4 : decode cX8_valueOf 4 = .ok (.invokevirtual 63, 3) := by decide +kernel
theorem dX8_valueOf_7 : decode cX8_valueOf 7 = .ok (.istore_n 1, 1) := by decide +kernel
theorem dX8_valueOf_8 : decode cX8_valueOf 8 = .ok (.iload_n 1, 1) := by decide +kernel
theorem dX8_valueOf_9 : decode cX8_valueOf 9 = .ok (.ifCond .lt 10, 3) := by decide +kernel
theorem dX8_valueOf_12 : decode cX8_valueOf 12 = .ok (.bipush 10, 2) := by decide +kernel
theorem dX8_valueOf_14 : decode cX8_valueOf 14 = .ok (.iload_n 1, 1) := by decide +kernel
theorem dX8_valueOf_15 : decode cX8_valueOf 15 = .ok (.iadd, 1) := by decide +kernel
theorem dX8_valueOf_16 : decode cX8_valueOf 16 = .ok (.goto 10, 3) := by decide +kernel
theorem dX8_valueOf_19 : decode cX8_valueOf 19 = .ok (.iload_n 0, 1) := by decide +kernel
theorem dX8_valueOf_20 : decode cX8_valueOf 20 = .ok (.bipush 48, 2) := by decide +kernel
theorem dX8_valueOf_22 : decode cX8_valueOf 22 = .ok (.isub, 1) := by decide +kernel
theorem dX8_valueOf_23 : decode cX8_valueOf 23 = .ok (.bipush 15, 2) := by decide +kernel
theorem dX8_valueOf_25 : decode cX8_valueOf 25 = .ok (.iand, 1) := by decide +kernel
theorem dX8_valueOf_26 : decode cX8_valueOf 26 = .ok (.ireturn, 1) := by decide +kernel
theorem dX9_init_0 : decode cX9_init 0 = .ok (.aload_n 0, 1) := by decide +kernel
theorem dX9_init_1 : decode cX9_init 1 = .ok (.invokespecial 3, 3) := by decide +kernel
theorem dX9_init_4 : decode cX9_init 4 = .ok (.aload_n 0, 1) := by decide +kernel
theorem dX9_init_5 : decode cX9_init 5 = .ok (.iconst 4, 1) := by decide +kernel
theorem dX9_init_6 : decode cX9_init 6 = .ok (.anewarray 9, 3) := by decide +kernel
theorem dX9_init_9 : decode cX9_init 9 = .ok (.putfield 11, 3) := by decide +kernel
theorem dX9_init_12 : decode cX9_init 12 = .ok (.aload_n 0, 1) := by decide +kernel
theorem dX9_init_13 : decode cX9_init 13 = .ok (.bipush 12, 2) := by decide +kernel
theorem dX9_init_15 : decode cX9_init 15 = .ok (.anewarray 15, 3) := by decide +kernel
theorem dX9_init_18 : decode cX9_init 18 = .ok (.putfield 17, 3) := by decide +kernel
theorem dX9_init_21 : decode cX9_init 21 = .ok (.aload_n 0, 1) := by decide +kernel
theorem dX9_init_22 : decode cX9_init 22 = .ok (.iconst 4, 1) := by decide +kernel
theorem dX9_init_23 : decode cX9_init 23 = .ok (.anewarray 21, 3) := by decide +kernel
theorem dX9_init_26 : decode cX9_init 26 = .ok (.putfield 23, 3) := by decide +kernel
theorem dX9_init_29 : decode cX9_init 29 = .ok (.aload_n 0, 1) := by decide +kernel
theorem dX9_init_30 : decode cX9_init 30 = .ok (.bipush 8, 2) := by decide +kernel
theorem dX9_init_32 : decode cX9_init 32 = .ok (.newarray .int, 2) := by decide +kernel
theorem dX9_init_34 : decode cX9_init 34 = .ok (.putfield 27, 3) := by decide +kernel
theorem dX9_init_37 : decode cX9_init 37 = .ok (.aload_n 0, 1) := by decide +kernel
theorem dX9_init_38 : decode cX9_init 38 = .ok (.new 31, 3) := by decide +kernel
theorem dX9_init_41 : decode cX9_init 41 = .ok (.dup, 1) := by decide +kernel
theorem dX9_init_42 : decode cX9_init 42 = .ok (.invokespecial 33, 3) := by decide +kernel
theorem dX9_init_45 : decode cX9_init 45 = .ok (.putfield 34, 3) := by decide +kernel
theorem dX9_init_48 : decode cX9_init 48 = .ok (.aload_n 0, 1) := by decide +kernel
theorem dX9_init_49 : decode cX9_init 49 = .ok (.new 38, 3) := by decide +kernel
theorem dX9_init_52 : decode cX9_init 52 = .ok (.dup, 1) := by decide +kernel
theorem dX9_init_53 : decode cX9_init 53 = .ok (.invokespecial 40, 3) := by decide +kernel
theorem dX9_init_56 : decode cX9_init 56 = .ok (.putfield 41, 3) := by decide +kernel
theorem dX9_init_59 : decode cX9_init 59 = .ok (.aload_n 0, 1) := by decide +kernel
theorem dX9_init_60 : decode cX9_init 60 = .ok (.new 45, 3) := by decide +kernel
theorem dX9_init_63 : decode cX9_init 63 = .ok (.dup, 1) := by decide +kernel
theorem dX9_init_64 : decode cX9_init 64 = .ok (.invokespecial 47, 3) := by decide +kernel
theorem dX9_init_67 : decode cX9_init 67 = .ok (.putfield 48, 3) := by decide +kernel
theorem dX9_init_70 : decode cX9_init 70 = .ok (.aload_n 0, 1) := by decide +kernel
theorem dX9_init_71 : decode cX9_init 71 = .ok (.new 52, 3) := by decide +kernel
theorem dX9_init_74 : decode cX9_init 74 = .ok (.dup, 1) := by decide +kernel
theorem dX9_init_75 : decode cX9_init 75 = .ok (.invokespecial 54, 3) := by decide +kernel
theorem dX9_init_78 : decode cX9_init 78 = .ok (.putfield 55, 3) := by decide +kernel
theorem dX9_init_81 : decode cX9_init 81 = .ok (.aload_n 0, 1) := by decide +kernel
theorem dX9_init_82 : decode cX9_init 82 = .ok (.new 59, 3) := by decide +kernel
theorem dX9_init_85 : decode cX9_init 85 = .ok (.dup, 1) := by decide +kernel
theorem dX9_init_86 : decode cX9_init 86 = .ok (.invokespecial 61, 3) := by decide +kernel
theorem dX9_init_89 : decode cX9_init 89 = .ok (.putfield 62, 3) := by decide +kernel
theorem dX9_init_92 : decode cX9_init 92 = .ok (.aload_n 0, 1) := by decide +kernel
theorem dX9_init_93 : decode cX9_init 93 = .ok (.iconst 0, 1) := by decide +kernel
theorem dX9_init_94 : decode cX9_init 94 = .ok (.putfield 66, 3) := by decide +kernel
theorem dX9_init_97 : decode cX9_init 97 = .ok (.aload_n 0, 1) := by decide +kernel
theorem dX9_init_98 : decode cX9_init 98 = .ok (.iconst 0, 1) := by decide +kernel
theorem dX9_init_99 : decode cX9_init 99 = .ok (.putfield 70, 3) := by decide +kernel
theorem dX9_init_102 : decode cX9_init 102 = .ok (.aload_n 0, 1) := by decide +kernel
theorem dX9_init_103 : decode cX9_init 103 = .ok (.iconst (-1), 1) := by decide +kernel
theorem dX9_init_104 : decode cX9_init 104 = .ok (.putfield 73, 3) := by decide +kernel
theorem dX9_init_107 : decode cX9_init 107 = .ok (.aload_n 0, 1) := by decide +kernel
theorem dX9_init_108 : decode cX9_init 108 = .ok (.iconst (-1), 1) := by decide +kernel
theorem dX9_init_109 : decode cX9_init 109 = .ok (.putfield 76, 3) := by decide +kernel
theorem dX9_init_112 : decode cX9_init 112 = .ok (.iconst 0, 1) := by decide +kernel
theorem dX9_init_113 : decode cX9_init 113 = .ok (.istore_n 1, 1) := by decide +kernel
theorem dX9_init_114 : decode cX9_init 114 = .ok (.iload_n 1, 1) := by decide +kernel
theorem dX9_init_115 : decode cX9_init 115 = .ok (.iconst 4, 1) := by decide +kernel
theorem dX9_init_116 : decode cX9_init 116 = .ok (.if_icmp .ge 22, 3) := by decide +kernel
theorem dX9_init_119 : decode cX9_init 119 = .ok (.aload_n 0, 1) := by decide +kernel
theorem dX9_init_120 : decode cX9_init 120 = .ok (.getfield 11, 3) := by decide +kernel
theorem dX9_init_123 : decode cX9_init 123 = .ok (.iload_n 1, 1) := by decide +kernel
theorem dX9_init_124 : decode cX9_init 124 = .ok (.new 9, 3) := by decide +kernel
theorem dX9_init_127 : decode cX9_init 127 = .ok (.dup, 1) := by decide +kernel
theorem dX9_init_128 : decode cX9_init 128 = .ok (.invokespecial 79, 3) := by decide +kernel
theorem dX9_init_131 : decode cX9_init 131 = .ok (.aastore, 1) := by decide +kernel
theorem dX9_init_132 : decode cX9_init 132 = .ok (.iinc 1 1, 3) := by decide +kernel
theorem dX9_init_135 : decode cX9_init 135 = .ok (.goto (-21), 3) := by decide +kernel
theorem dX9_init_138 : decode cX9_init 138 = .ok (.aload_n 0, 1) := by decide +kernel
theorem dX9_init_139 : decode cX9_init 139 = .ok (.new 80, 3) := by decide +kernel
theorem dX9_init_142 : decode cX9_init 142 = .ok (.dup, 1) := by decide +kernel
theorem dX9_init_143 : decode cX9_init 143 = .ok (.aload_n 0, 1) := by decide +kernel
theorem dX9_init_144 : decode cX9_init 144 = .ok (.getfield 11, 3) := by decide +kernel
theorem dX9_init_147 : decode cX9_init 147 = .ok (.iconst 0, 1) := by decide +kernel
theorem dX9_init_148 : decode cX9_init 148 = .ok (.aaload, 1) := by decide +kernel
theorem dX9_init_149 : decode cX9_init 149 = .ok (.invokespecial 82, 3) := by decide +kernel
theorem dX9_init_152 : decode cX9_init 152 = .ok (.putfield 85, 3) := by decide +kernel
theorem dX9_init_155 : decode cX9_init 155 = .ok (.iconst 0, 1) := by decide +kernel
theorem dX9_init_156 : decode cX9_init 156 = .ok (.istore_n 1, 1) := by decide +kernel
theorem dX9_init_157 : decode cX9_init 157 = .ok (.iload_n 1, 1) := by decide +kernel
theorem dX9_init_158 : decode cX9_init 158 = .ok (.iconst 4, 1) := by decide +kernel
theorem dX9_init_159 : decode cX9_init 159 = .ok (.if_icmp .ge 22, 3) := by decide +kernel
theorem dX9_init_162 : decode cX9_init 162 = .ok (.aload_n 0, 1) := by decide +kernel
theorem dX9_init_163 : decode cX9_init 163 = .ok (.getfield 23, 3) := by decide +kernel
theorem dX9_init_166 : decode cX9_init 166 = .ok (.iload_n 1, 1) := by decide +kernel
theorem dX9_init_167 : decode cX9_init 167 = .ok (.new 21, 3) := by decide +kernel
theorem dX9_init_170 : decode cX9_init 170 = .ok (.dup, 1) := by decide +kernel
theorem dX9_init_171 : decode cX9_init 171 = .ok (.invokespecial 89, 3) := by decide +kernel
theorem dX9_init_174 : decode cX9_init 174 = .ok (.aastore, 1) := by decide +kernel
theorem dX9_init_175 : decode cX9_init 175 = .ok (.iinc 1 1, 3) := by decide +kernel
theorem dX9_init_178 : decode cX9_init 178 = .ok (.goto (-21), 3) := by decide +kernel
theorem dX9_init_181 : decode cX9_init 181 = .ok (.return_, 1) := by decide +kernel
theorem dX9_type_0 : decode cX9_type 0 = .ok (.aload_n 0, 1) := by decide +kernel
theorem dX9_type_1 : decode cX9_type 1 = .ok (.iload_n 1, 1) := by decide +kernel
theorem dX9_type_2 : decode cX9_type 2 = .ok (.invokevirtual 90, 3) := by decide +kernel
theorem dX9_type_5 : decode cX9_type 5 = .ok (.astore_n 3, 1) := by decide +kernel
theorem dX9_type_6 : decode cX9_type 6 = .ok (.aload_n 3, 1) := by decide +kernel
theorem dX9_type_7 : decode cX9_type 7 = .ok (.ifnull 14, 3) := by decide +kernel
theorem dX9_type_10 : decode cX9_type 10 = .ok (.iload_n 2, 1) := by decide +kernel
theorem dX9_type_11 : decode cX9_type 11 = .ok (.ifCond .lt 10, 3) := by decide +kernel
theorem dX9_type_14 : decode cX9_type 14 = .ok (.iload_n 2, 1) := by decide +kernel
theorem dX9_type_15 : decode cX9_type 15 = .ok (.sipush 255, 3) := by decide +kernel
theorem dX9_type_18 : decode cX9_type 18 = .ok (.if_icmp .le 6, 3) := by decide +kernel
theorem dX9_type_21 : decode cX9_type 21 = .ok (.bipush (-2), 2) := by decide +kernel
theorem dX9_type_23 : decode cX9_type 23 = .ok (.ireturn, 1) := by decide +kernel
theorem dX9_type_24 : decode cX9_type 24 = .ok (.aload_n 0, 1) := by decide +kernel
theorem dX9_type_25 : decode cX9_type 25 = .ok (.iconst (-1), 1) := by decide +kernel
theorem dX9_type_26 : decode cX9_type 26 = .ok (.putfield 73, 3) := by decide +kernel
theorem dX9_type_29 : decode cX9_type 29 = .ok (.aload_n 3, 1) := by decide +kernel
theorem dX9_type_30 : decode cX9_type 30 = .ok (.iload_n 2, 1) := by decide +kernel
theorem dX9_type_31 : decode cX9_type 31 = .ok (.invokevirtual 94, 3) := by decide +kernel
theorem dX9_type_34 : decode cX9_type 34 = .ok (.ireturn, 1) := by decide +kernel
theorem dX9_wipe_0 : decode cX9_wipe 0 = .ok (.aload_n 0, 1) := by decide +kernel
theorem dX9_wipe_1 : decode cX9_wipe 1 = .ok (.iload_n 1, 1) := by decide +kernel
theorem dX9_wipe_2 : decode cX9_wipe 2 = .ok (.invokevirtual 90, 3) := by decide +kernel
theorem dX9_wipe_5 : decode cX9_wipe 5 = .ok (.astore_n 2, 1) := by decide +kernel
theorem dX9_wipe_6 : decode cX9_wipe 6 = .ok (.aload_n 2, 1) := by decide +kernel
theorem dX9_wipe_7 : decode cX9_wipe 7 = .ok (.ifnonnull 6, 3) := by decide +kernel
theorem dX9_wipe_10 : decode cX9_wipe 10 = .ok (.bipush (-2), 2) := by decide +kernel
theorem dX9_wipe_12 : decode cX9_wipe 12 = .ok (.ireturn, 1) := by decide +kernel
theorem dX9_wipe_13 : decode cX9_wipe 13 = .ok (.aload_n 0, 1) := by decide +kernel
theorem dX9_wipe_14 : decode cX9_wipe 14 = .ok (.iconst (-1), 1) := by decide +kernel
theorem dX9_wipe_15 : decode cX9_wipe 15 = .ok (.putfield 73, 3) := by decide +kernel
theorem dX9_wipe_18 : decode cX9_wipe 18 = .ok (.aload_n 2, 1) := by decide +kernel
theorem dX9_wipe_19 : decode cX9_wipe 19 = .ok (.invokevirtual 98, 3) := by decide +kernel
theorem dX9_wipe_22 : decode cX9_wipe 22 = .ok (.ireturn, 1) := by decide +kernel
theorem dX9_fault_0 : decode cX9_fault 0 = .ok (.aload_n 0, 1) := by decide +kernel
theorem dX9_fault_1 : decode cX9_fault 1 = .ok (.iload_n 1, 1) := by decide +kernel
theorem dX9_fault_2 : decode cX9_fault 2 = .ok (.invokevirtual 90, 3) := by decide +kernel
theorem dX9_fault_5 : decode cX9_fault 5 = .ok (.astore_n 2, 1) := by decide +kernel
theorem dX9_fault_6 : decode cX9_fault 6 = .ok (.aload_n 2, 1) := by decide +kernel
theorem dX9_fault_7 : decode cX9_fault 7 = .ok (.ifnonnull 6, 3) := by decide +kernel
theorem dX9_fault_10 : decode cX9_fault 10 = .ok (.bipush (-2), 2) := by decide +kernel
theorem dX9_fault_12 : decode cX9_fault 12 = .ok (.ireturn, 1) := by decide +kernel
theorem dX9_fault_13 : decode cX9_fault 13 = .ok (.aload_n 2, 1) := by decide +kernel
theorem dX9_fault_14 : decode cX9_fault 14 = .ok (.invokevirtual 102, 3) := by decide +kernel
theorem dX9_fault_17 : decode cX9_fault 17 = .ok (.aload_n 2, 1) := by decide +kernel
theorem dX9_fault_18 : decode cX9_fault 18 = .ok (.getfield 105, 3) := by decide +kernel
theorem dX9_fault_21 : decode cX9_fault 21 = .ok (.ireturn, 1) := by decide +kernel
theorem dX9_acts_0 : decode cX9_acts 0 = .ok (.aload_n 0, 1) := by decide +kernel
theorem dX9_acts_1 : decode cX9_acts 1 = .ok (.iload_n 1, 1) := by decide +kernel
theorem dX9_acts_2 : decode cX9_acts 2 = .ok (.invokevirtual 90, 3) := by decide +kernel
theorem dX9_acts_5 : decode cX9_acts 5 = .ok (.astore_n 3, 1) := by decide +kernel
theorem dX9_acts_6 : decode cX9_acts 6 = .ok (.aload_n 3, 1) := by decide +kernel
theorem dX9_acts_7 : decode cX9_acts 7 = .ok (.ifnull 13, 3) := by decide +kernel
theorem dX9_acts_10 : decode cX9_acts 10 = .ok (.iload_n 2, 1) := by decide +kernel
theorem dX9_acts_11 : decode cX9_acts 11 = .ok (.ifCond .lt 9, 3) := by decide +kernel
theorem dX9_acts_14 : decode cX9_acts 14 = .ok (.iload_n 2, 1) := by decide +kernel
theorem dX9_acts_15 : decode cX9_acts 15 = .ok (.bipush 16, 2) := by decide +kernel
theorem dX9_acts_17 : decode cX9_acts 17 = .ok (.if_icmp .lt 6, 3) := by decide +kernel
theorem dX9_acts_20 : decode cX9_acts 20 = .ok (.bipush (-2), 2) := by decide +kernel
theorem dX9_acts_22 : decode cX9_acts 22 = .ok (.ireturn, 1) := by decide +kernel
theorem dX9_acts_23 : decode cX9_acts 23 = .ok (.aload_n 3, 1) := by decide +kernel
theorem dX9_acts_24 : decode cX9_acts 24 = .ok (.invokevirtual 102, 3) := by decide +kernel
theorem dX9_acts_27 : decode cX9_acts 27 = .ok (.aload_n 3, 1) := by decide +kernel
theorem dX9_acts_28 : decode cX9_acts 28 = .ok (.getfield 108, 3) := by decide +kernel
theorem dX9_acts_31 : decode cX9_acts 31 = .ok (.iload_n 2, 1) := by decide +kernel
theorem dX9_acts_32 : decode cX9_acts 32 = .ok (.iaload, 1) := by decide +kernel
theorem dX9_acts_33 : decode cX9_acts 33 = .ok (.ireturn, 1) := by decide +kernel
theorem dX9_differ_0 : decode cX9_differ 0 = .ok (.aload_n 0, 1) := by decide +kernel
theorem dX9_differ_1 : decode cX9_differ 1 = .ok (.iload_n 1, 1) := by decide +kernel
theorem dX9_differ_2 : decode cX9_differ 2 = .ok (.invokevirtual 90, 3) := by decide +kernel
theorem dX9_differ_5 : decode cX9_differ 5 = .ok (.astore_n 3, 1) := by decide +kernel
theorem dX9_differ_6 : decode cX9_differ 6 = .ok (.aload_n 0, 1) := by decide +kernel
theorem dX9_differ_7 : decode cX9_differ 7 = .ok (.iload_n 2, 1) := by decide +kernel
theorem dX9_differ_8 : decode cX9_differ 8 = .ok (.invokevirtual 90, 3) := by decide +kernel
theorem dX9_differ_11 : decode cX9_differ 11 = .ok (.astore 4, 2) := by decide +kernel
theorem dX9_differ_13 : decode cX9_differ 13 = .ok (.aload_n 3, 1) := by decide +kernel
theorem dX9_differ_14 : decode cX9_differ 14 = .ok (.ifnull 8, 3) := by decide +kernel
theorem dX9_differ_17 : decode cX9_differ 17 = .ok (.aload 4, 2) := by decide +kernel
theorem dX9_differ_19 : decode cX9_differ 19 = .ok (.ifnonnull 8, 3) := by decide +kernel
theorem dX9_differ_22 : decode cX9_differ 22 = .ok (.bipush (-2), 2) := by decide +kernel
theorem dX9_differ_24 : decode cX9_differ 24 = .ok (.goto 9, 3) := by decide +kernel
theorem dX9_differ_27 : decode cX9_differ 27 = .ok (.aload_n 3, 1) := by decide +kernel
theorem dX9_differ_28 : decode cX9_differ 28 = .ok (.aload 4, 2) := by decide +kernel
theorem dX9_differ_30 : decode cX9_differ 30 = .ok (.invokestatic 111, 3) := by decide +kernel
theorem dX9_differ_33 : decode cX9_differ 33 = .ok (.ireturn, 1) := by decide +kernel
theorem dX9_run_0 : decode cX9_run 0 = .ok (.aload_n 0, 1) := by decide +kernel
theorem dX9_run_1 : decode cX9_run 1 = .ok (.iload_n 1, 1) := by decide +kernel
theorem dX9_run_2 : decode cX9_run 2 = .ok (.iload_n 2, 1) := by decide +kernel
theorem dX9_run_3 : decode cX9_run 3 = .ok (.iload_n 3, 1) := by decide +kernel
theorem dX9_run_4 : decode cX9_run 4 = .ok (.invokevirtual 115, 3) := by decide +kernel
theorem dX9_run_7 : decode cX9_run 7 = .ok (.ifCond .eq 26, 3) := by decide +kernel
theorem dX9_run_10 : decode cX9_run 10 = .ok (.iload 5, 2) := by decide +kernel
theorem dX9_run_12 : decode cX9_run 12 = .ok (.ifCond .lt 21, 3) := by decide +kernel
theorem dX9_run_15 : decode cX9_run 15 = .ok (.iload 5, 2) := by decide +kernel
theorem dX9_run_17 : decode cX9_run 17 = .ok (.bipush 40, 2) := by decide +kernel
theorem dX9_run_19 : decode cX9_run 19 = .ok (.if_icmp .gt 14, 3) := by decide +kernel
theorem dX9_run_22 : decode cX9_run 22 = .ok (.iload 6, 2) := by decide +kernel
theorem dX9_run_24 : decode cX9_run 24 = .ok (.ifCond .lt 9, 3) := by decide +kernel
theorem dX9_run_27 : decode cX9_run 27 = .ok (.iload 6, 2) := by decide +kernel
theorem dX9_run_29 : decode cX9_run 29 = .ok (.iconst 5, 1) := by decide +kernel
theorem dX9_run_30 : decode cX9_run 30 = .ok (.if_icmp .le 7, 3) := by decide +kernel
theorem dX9_run_33 : decode cX9_run 33 = .ok (.sipush (-1000), 3) := by decide +kernel
theorem dX9_run_36 : decode cX9_run 36 = .ok (.ireturn, 1) := by decide +kernel
theorem dX9_run_37 : decode cX9_run 37 = .ok (.aload_n 0, 1) := by decide +kernel
theorem dX9_run_38 : decode cX9_run 38 = .ok (.iload 4, 2) := by decide +kernel
theorem dX9_run_40 : decode cX9_run 40 = .ok (.invokevirtual 119, 3) := by decide +kernel
theorem dX9_run_43 : decode cX9_run 43 = .ok (.astore 7, 2) := by decide +kernel
theorem dX9_run_45 : decode cX9_run 45 = .ok (.aload 7, 2) := by decide +kernel
theorem dX9_run_47 : decode cX9_run 47 = .ok (.ifnonnull 7, 3) := by decide +kernel
theorem dX9_run_50 : decode cX9_run 50 = .ok (.sipush (-1000), 3) := by decide +kernel
theorem dX9_run_53 : decode cX9_run 53 = .ok (.ireturn, 1) := by decide +kernel
theorem dX9_run_54 : decode cX9_run 54 = .ok (.aload 7, 2) := by decide +kernel
theorem dX9_run_56 : decode cX9_run 56 = .ok (.getfield 123, 3) := by decide +kernel
theorem dX9_run_59 : decode cX9_run 59 = .ok (.ifCond .ne 13, 3) := by decide +kernel
theorem dX9_run_62 : decode cX9_run 62 = .ok (.iload 5, 2) := by decide +kernel
theorem dX9_run_64 : decode cX9_run 64 = .ok (.aload 7, 2) := by decide +kernel
theorem dX9_run_66 : decode cX9_run 66 = .ok (.getfield 127, 3) := by decide +kernel
theorem dX9_run_69 : decode cX9_run 69 = .ok (.if_icmp .le 24, 3) := by decide +kernel
theorem dX9_run_72 : decode cX9_run 72 = .ok (.aload_n 0, 1) := by decide +kernel
theorem dX9_run_73 : decode cX9_run 73 = .ok (.aload 7, 2) := by decide +kernel
theorem dX9_run_75 : decode cX9_run 75 = .ok (.getfield 123, 3) := by decide +kernel
theorem dX9_run_78 : decode cX9_run 78 = .ok (.ifCond .eq 7, 3) := by decide +kernel
theorem dX9_run_81 : decode cX9_run 81 = .ok (.iconst 1, 1) := by decide +kernel
theorem dX9_run_82 : decode cX9_run 82 = .ok (.goto 4, 3) := by decide +kernel
theorem dX9_run_85 : decode cX9_run 85 = .ok (.iconst 2, 1) := by decide +kernel
theorem dX9_run_86 : decode cX9_run 86 = .ok (.putfield 70, 3) := by decide +kernel
theorem dX9_run_89 : decode cX9_run 89 = .ok (.sipush (-1000), 3) := by decide +kernel
theorem dX9_run_92 : decode cX9_run 92 = .ok (.ireturn, 1) := by decide +kernel
theorem dX9_run_93 : decode cX9_run 93 = .ok (.aload 7, 2) := by decide +kernel
theorem dX9_run_95 : decode cX9_run 95 = .ok (.iload 5, 2) := by decide +kernel
theorem dX9_run_97 : decode cX9_run 97 = .ok (.invokevirtual 130, 3) := by decide +kernel
theorem dX9_run_100 : decode cX9_run 100 = .ok (.iload 5, 2) := by decide +kernel
theorem dX9_run_102 : decode cX9_run 102 = .ok (.if_icmp .ge 9, 3) := by decide +kernel
theorem dX9_run_105 : decode cX9_run 105 = .ok (.sipush (-1000), 3) := by decide +kernel
theorem dX9_run_108 : decode cX9_run 108 = .ok (.goto 16, 3) := by decide +kernel
theorem dX9_run_111 : decode cX9_run 111 = .ok (.aload_n 0, 1) := by decide +kernel
theorem dX9_run_112 : decode cX9_run 112 = .ok (.aload 7, 2) := by decide +kernel
theorem dX9_run_114 : decode cX9_run 114 = .ok (.getfield 133, 3) := by decide +kernel
theorem dX9_run_117 : decode cX9_run 117 = .ok (.iload 5, 2) := by decide +kernel
theorem dX9_run_119 : decode cX9_run 119 = .ok (.iload 6, 2) := by decide +kernel
theorem dX9_run_121 : decode cX9_run 121 = .ok (.invokevirtual 136, 3) := by decide +kernel
theorem dX9_run_124 : decode cX9_run 124 = .ok (.ireturn, 1) := by decide +kernel
theorem dX9_parting_0 : decode cX9_parting 0 = .ok (.aload_n 0, 1) := by decide +kernel
theorem dX9_parting_1 : decode cX9_parting 1 = .ok (.iload_n 1, 1) := by decide +kernel
theorem dX9_parting_2 : decode cX9_parting 2 = .ok (.iload_n 2, 1) := by decide +kernel
theorem dX9_parting_3 : decode cX9_parting 3 = .ok (.iload_n 3, 1) := by decide +kernel
theorem dX9_parting_4 : decode cX9_parting 4 = .ok (.invokevirtual 115, 3) := by decide +kernel
theorem dX9_parting_7 : decode cX9_parting 7 = .ok (.ifCond .eq 13, 3) := by decide +kernel
theorem dX9_parting_10 : decode cX9_parting 10 = .ok (.aload_n 0, 1) := by decide +kernel
theorem dX9_parting_11 : decode cX9_parting 11 = .ok (.iload_n 1, 1) := by decide +kernel
theorem dX9_parting_12 : decode cX9_parting 12 = .ok (.iload_n 2, 1) := by decide +kernel
theorem dX9_parting_13 : decode cX9_parting 13 = .ok (.iload_n 3, 1) := by decide +kernel
theorem dX9_parting_14 : decode cX9_parting 14 = .ok (.invokevirtual 140, 3) := by decide +kernel
theorem dX9_parting_17 : decode cX9_parting 17 = .ok (.goto 5, 3) := by decide +kernel
theorem dX9_parting_20 : decode cX9_parting 20 = .ok (.bipush (-2), 2) := by decide +kernel
theorem dX9_parting_22 : decode cX9_parting 22 = .ok (.ireturn, 1) := by decide +kernel
theorem dX9_event_0 : decode cX9_event 0 = .ok (.iload 4, 2) := by decide +kernel
theorem dX9_event_2 : decode cX9_event 2 = .ok (.ifCond .lt 13, 3) := by decide +kernel
theorem dX9_event_5 : decode cX9_event 5 = .ok (.aload_n 0, 1) := by decide +kernel
theorem dX9_event_6 : decode cX9_event 6 = .ok (.iload_n 1, 1) := by decide +kernel
theorem dX9_event_7 : decode cX9_event 7 = .ok (.iload_n 2, 1) := by decide +kernel
theorem dX9_event_8 : decode cX9_event 8 = .ok (.iload_n 3, 1) := by decide +kernel
theorem dX9_event_9 : decode cX9_event 9 = .ok (.invokevirtual 115, 3) := by decide +kernel
theorem dX9_event_12 : decode cX9_event 12 = .ok (.ifCond .ne 6, 3) := by decide +kernel
theorem dX9_event_15 : decode cX9_event 15 = .ok (.bipush (-2), 2) := by decide +kernel
theorem dX9_event_17 : decode cX9_event 17 = .ok (.ireturn, 1) := by decide +kernel
theorem dX9_event_18 : decode cX9_event 18 = .ok (.aload_n 0, 1) := by decide +kernel
theorem dX9_event_19 : decode cX9_event 19 = .ok (.iload_n 1, 1) := by decide +kernel
theorem dX9_event_20 : decode cX9_event 20 = .ok (.iload_n 2, 1) := by decide +kernel
theorem dX9_event_21 : decode cX9_event 21 = .ok (.iload_n 3, 1) := by decide +kernel
theorem dX9_event_22 : decode cX9_event 22 = .ok (.invokevirtual 140, 3) := by decide +kernel
theorem dX9_event_25 : decode cX9_event 25 = .ok (.istore 5, 2) := by decide +kernel
theorem dX9_event_27 : decode cX9_event 27 = .ok (.iload 4, 2) := by decide +kernel
theorem dX9_event_29 : decode cX9_event 29 = .ok (.iload 5, 2) := by decide +kernel
theorem dX9_event_31 : decode cX9_event 31 = .ok (.if_icmp .ge 22, 3) := by decide +kernel
theorem dX9_event_34 : decode cX9_event 34 = .ok (.iload 4, 2) := by decide +kernel
theorem dX9_event_36 : decode cX9_event 36 = .ok (.iconst 5, 1) := by decide +kernel
theorem dX9_event_37 : decode cX9_event 37 = .ok (.if_icmp .ge 16, 3) := by decide +kernel
theorem dX9_event_40 : decode cX9_event 40 = .ok (.aload_n 0, 1) := by decide +kernel
theorem dX9_event_41 : decode cX9_event 41 = .ok (.getfield 34, 3) := by decide +kernel
theorem dX9_event_44 : decode cX9_event 44 = .ok (.getfield 144, 3) := by decide +kernel
theorem dX9_event_47 : decode cX9_event 47 = .ok (.iload 4, 2) := by decide +kernel
theorem dX9_event_49 : decode cX9_event 49 = .ok (.iaload, 1) := by decide +kernel
theorem dX9_event_50 : decode cX9_event 50 = .ok (.goto 4, 3) := by decide +kernel
theorem dX9_event_53 : decode cX9_event 53 = .ok (.iconst (-1), 1) := by decide +kernel
theorem dX9_event_54 : decode cX9_event 54 = .ok (.ireturn, 1) := by decide +kernel
theorem dX9_mended_0 : decode cX9_mended 0 = .ok (.aload_n 0, 1) := by decide +kernel
theorem dX9_mended_1 : decode cX9_mended 1 = .ok (.iload_n 1, 1) := by decide +kernel
theorem dX9_mended_2 : decode cX9_mended 2 = .ok (.invokevirtual 90, 3) := by decide +kernel
theorem dX9_mended_5 : decode cX9_mended 5 = .ok (.astore_n 3, 1) := by decide +kernel
theorem dX9_mended_6 : decode cX9_mended 6 = .ok (.aload_n 0, 1) := by decide +kernel
theorem dX9_mended_7 : decode cX9_mended 7 = .ok (.iload_n 2, 1) := by decide +kernel
theorem dX9_mended_8 : decode cX9_mended 8 = .ok (.invokevirtual 90, 3) := by decide +kernel
theorem dX9_mended_11 : decode cX9_mended 11 = .ok (.astore 4, 2) := by decide +kernel
theorem dX9_mended_13 : decode cX9_mended 13 = .ok (.aload_n 3, 1) := by decide +kernel
theorem dX9_mended_14 : decode cX9_mended 14 = .ok (.ifnull 8, 3) := by decide +kernel
theorem dX9_mended_17 : decode cX9_mended 17 = .ok (.aload 4, 2) := by decide +kernel
theorem dX9_mended_19 : decode cX9_mended 19 = .ok (.ifnonnull 6, 3) := by decide +kernel
theorem dX9_mended_22 : decode cX9_mended 22 = .ok (.bipush (-2), 2) := by decide +kernel
theorem dX9_mended_24 : decode cX9_mended 24 = .ok (.ireturn, 1) := by decide +kernel
theorem dX9_mended_25 : decode cX9_mended 25 = .ok (.aload_n 3, 1) := by decide +kernel
theorem dX9_mended_26 : decode cX9_mended 26 = .ok (.aload 4, 2) := by decide +kernel
theorem dX9_mended_28 : decode cX9_mended 28 = .ok (.invokestatic 111, 3) := by decide +kernel
theorem dX9_mended_31 : decode cX9_mended 31 = .ok (.istore 5, 2) := by decide +kernel
theorem dX9_mended_33 : decode cX9_mended 33 = .ok (.iload 5, 2) := by decide +kernel
theorem dX9_mended_35 : decode cX9_mended 35 = .ok (.invokestatic 147, 3) := by decide +kernel
theorem dX9_mended_38 : decode cX9_mended 38 = .ok (.bipush 8, 2) := by decide +kernel
theorem dX9_mended_40 : decode cX9_mended 40 = .ok (.if_icmp .le 6, 3) := by decide +kernel
theorem dX9_mended_43 : decode cX9_mended 43 = .ok (.bipush (-4), 2) := by decide +kernel
theorem dX9_mended_45 : decode cX9_mended 45 = .ok (.ireturn, 1) := by decide +kernel
theorem dX9_mended_46 : decode cX9_mended 46 = .ok (.aload_n 0, 1) := by decide +kernel
theorem dX9_mended_47 : decode cX9_mended 47 = .ok (.getfield 85, 3) := by decide +kernel
theorem dX9_mended_50 : decode cX9_mended 50 = .ok (.aload_n 3, 1) := by decide +kernel
theorem dX9_mended_51 : decode cX9_mended 51 = .ok (.aload 4, 2) := by decide +kernel
theorem dX9_mended_53 : decode cX9_mended 53 = .ok (.iconst 0, 1) := by decide +kernel
theorem dX9_mended_54 : decode cX9_mended 54 = .ok (.invokevirtual 152, 3) := by decide +kernel
theorem dX9_mended_57 : decode cX9_mended 57 = .ok (.aload_n 0, 1) := by decide +kernel
theorem dX9_mended_58 : decode cX9_mended 58 = .ok (.iconst (-1), 1) := by decide +kernel
theorem dX9_mended_59 : decode cX9_mended 59 = .ok (.putfield 73, 3) := by decide +kernel
theorem dX9_mended_62 : decode cX9_mended 62 = .ok (.aload_n 0, 1) := by decide +kernel
theorem dX9_mended_63 : decode cX9_mended 63 = .ok (.getfield 41, 3) := by decide +kernel
theorem dX9_mended_66 : decode cX9_mended 66 = .ok (.aload_n 0, 1) := by decide +kernel
theorem dX9_mended_67 : decode cX9_mended 67 = .ok (.getfield 85, 3) := by decide +kernel
theorem dX9_mended_70 : decode cX9_mended 70 = .ok (.aload_n 0, 1) := by decide +kernel
theorem dX9_mended_71 : decode cX9_mended 71 = .ok (.getfield 34, 3) := by decide +kernel
theorem dX9_mended_74 : decode cX9_mended 74 = .ok (.iload 5, 2) := by decide +kernel
theorem dX9_mended_76 : decode cX9_mended 76 = .ok (.invokevirtual 156, 3) := by decide +kernel
theorem dX9_mended_79 : decode cX9_mended 79 = .ok (.ireturn, 1) := by decide +kernel
theorem dX9_versionAt_0 : decode cX9_versionAt 0 = .ok (.iload_n 1, 1) := by decide +kernel
theorem dX9_versionAt_1 : decode cX9_versionAt 1 = .ok (.ifCond .lt 8, 3) := by decide +kernel
theorem dX9_versionAt_4 : decode cX9_versionAt 4 = .ok (.iload_n 1, 1) := by decide +kernel
theorem dX9_versionAt_5 : decode cX9_versionAt 5 = .ok (.iconst 4, 1) := by decide +kernel
theorem dX9_versionAt_6 : decode cX9_versionAt 6 = .ok (.if_icmp .lt 7, 3) := by decide +kernel
theorem dX9_versionAt_9 : decode cX9_versionAt 9 = .ok (.aconst_null, 1) := by decide +kernel
theorem dX9_versionAt_10 : decode cX9_versionAt 10 = .ok (.goto 9, 3) := by decide +kernel
theorem dX9_versionAt_13 : decode cX9_versionAt 13 = .ok (.aload_n 0, 1) := by decide +kernel
theorem dX9_versionAt_14 : decode cX9_versionAt 14 = .ok (.getfield 11, 3) := by decide +kernel
theorem dX9_versionAt_17 : decode cX9_versionAt 17 = .ok (.iload_n 1, 1) := by decide +kernel
theorem dX9_versionAt_18 : decode cX9_versionAt 18 = .ok (.aaload, 1) := by decide +kernel
theorem dX9_versionAt_19 : decode cX9_versionAt 19 = .ok (.areturn, 1) := by decide +kernel
theorem dX9_setMix_0 : decode cX9_setMix 0 = .ok (.aload_n 0, 1) := by decide +kernel
theorem dX9_setMix_1 : decode cX9_setMix 1 = .ok (.iload_n 1, 1) := by decide +kernel
theorem dX9_setMix_2 : decode cX9_setMix 2 = .ok (.invokevirtual 90, 3) := by decide +kernel
theorem dX9_setMix_5 : decode cX9_setMix 5 = .ok (.astore 4, 2) := by decide +kernel
theorem dX9_setMix_7 : decode cX9_setMix 7 = .ok (.aload_n 0, 1) := by decide +kernel
theorem dX9_setMix_8 : decode cX9_setMix 8 = .ok (.iload_n 2, 1) := by decide +kernel
theorem dX9_setMix_9 : decode cX9_setMix 9 = .ok (.invokevirtual 90, 3) := by decide +kernel
theorem dX9_setMix_12 : decode cX9_setMix 12 = .ok (.astore 5, 2) := by decide +kernel
theorem dX9_setMix_14 : decode cX9_setMix 14 = .ok (.aload 4, 2) := by decide +kernel
theorem dX9_setMix_16 : decode cX9_setMix 16 = .ok (.ifnull 18, 3) := by decide +kernel
theorem dX9_setMix_19 : decode cX9_setMix 19 = .ok (.aload 5, 2) := by decide +kernel
theorem dX9_setMix_21 : decode cX9_setMix 21 = .ok (.ifnull 13, 3) := by decide +kernel
theorem dX9_setMix_24 : decode cX9_setMix 24 = .ok (.iload_n 3, 1) := by decide +kernel
theorem dX9_setMix_25 : decode cX9_setMix 25 = .ok (.ifCond .lt 9, 3) := by decide +kernel
theorem dX9_setMix_28 : decode cX9_setMix 28 = .ok (.iload_n 3, 1) := by decide +kernel
theorem dX9_setMix_29 : decode cX9_setMix 29 = .ok (.ldc 160, 2) := by decide +kernel
theorem dX9_setMix_31 : decode cX9_setMix 31 = .ok (.if_icmp .le 5, 3) := by decide +kernel
theorem dX9_setMix_34 : decode cX9_setMix 34 = .ok (.iconst 0, 1) := by decide +kernel
theorem dX9_setMix_35 : decode cX9_setMix 35 = .ok (.ireturn, 1) := by decide +kernel
theorem dX9_setMix_36 : decode cX9_setMix 36 = .ok (.aload_n 0, 1) := by decide +kernel
theorem dX9_setMix_37 : decode cX9_setMix 37 = .ok (.getfield 85, 3) := by decide +kernel
theorem dX9_setMix_40 : decode cX9_setMix 40 = .ok (.aload 4, 2) := by decide +kernel
theorem dX9_setMix_42 : decode cX9_setMix 42 = .ok (.aload 5, 2) := by decide +kernel
theorem dX9_setMix_44 : decode cX9_setMix 44 = .ok (.iload_n 3, 1) := by decide +kernel
theorem dX9_setMix_45 : decode cX9_setMix 45 = .ok (.invokevirtual 152, 3) := by decide +kernel
theorem dX9_setMix_48 : decode cX9_setMix 48 = .ok (.iconst 1, 1) := by decide +kernel
theorem dX9_setMix_49 : decode cX9_setMix 49 = .ok (.ireturn, 1) := by decide +kernel
theorem dX9_seekParting_0 : decode cX9_seekParting 0 = .ok (.iload_n 3, 1) := by decide +kernel
theorem dX9_seekParting_1 : decode cX9_seekParting 1 = .ok (.iconst 4, 1) := by decide +kernel
theorem dX9_seekParting_2 : decode cX9_seekParting 2 = .ok (.ishl, 1) := by decide +kernel
theorem dX9_seekParting_3 : decode cX9_seekParting 3 = .ok (.iload_n 2, 1) := by decide +kernel
theorem dX9_seekParting_4 : decode cX9_seekParting 4 = .ok (.iconst 2, 1) := by decide +kernel
theorem dX9_seekParting_5 : decode cX9_seekParting 5 = .ok (.ishl, 1) := by decide +kernel
theorem dX9_seekParting_6 : decode cX9_seekParting 6 = .ok (.ior, 1) := by decide +kernel
theorem dX9_seekParting_7 : decode cX9_seekParting 7 = .ok (.iload_n 1, 1) := by decide +kernel
theorem dX9_seekParting_8 : decode cX9_seekParting 8 = .ok (.ior, 1) := by decide +kernel
theorem dX9_seekParting_9 : decode cX9_seekParting 9 = .ok (.istore 4, 2) := by decide +kernel
theorem dX9_seekParting_11 : decode cX9_seekParting 11 = .ok (.iload 4, 2) := by decide +kernel
theorem dX9_seekParting_13 : decode cX9_seekParting 13 = .ok (.aload_n 0, 1) := by decide +kernel
theorem dX9_seekParting_14 : decode cX9_seekParting 14 = .ok (.getfield 73, 3) := by decide +kernel
theorem dX9_seekParting_17 : decode cX9_seekParting 17 = .ok (.if_icmp .eq 25, 3) := by decide +kernel
theorem dX9_seekParting_20 : decode cX9_seekParting 20 = .ok (.aload_n 0, 1) := by decide +kernel
theorem dX9_seekParting_21 : decode cX9_seekParting 21 = .ok (.aload_n 0, 1) := by decide +kernel
theorem dX9_seekParting_22 : decode cX9_seekParting 22 = .ok (.getfield 34, 3) := by decide +kernel
theorem dX9_seekParting_25 : decode cX9_seekParting 25 = .ok (.aload_n 0, 1) := by decide +kernel
theorem dX9_seekParting_26 : decode cX9_seekParting 26 = .ok (.getfield 85, 3) := by decide +kernel
theorem dX9_seekParting_29 : decode cX9_seekParting 29 = .ok (.iconst 5, 1) := by decide +kernel
theorem dX9_seekParting_30 : decode cX9_seekParting 30 = .ok (.invokevirtual 161, 3) := by decide +kernel
theorem dX9_seekParting_33 : decode cX9_seekParting 33 = .ok (.putfield 76, 3) := by decide +kernel
theorem dX9_seekParting_36 : decode cX9_seekParting 36 = .ok (.aload_n 0, 1) := by decide +kernel
theorem dX9_seekParting_37 : decode cX9_seekParting 37 = .ok (.iload 4, 2) := by decide +kernel
theorem dX9_seekParting_39 : decode cX9_seekParting 39 = .ok (.putfield 73, 3) := by decide +kernel
theorem dX9_seekParting_42 : decode cX9_seekParting 42 = .ok (.aload_n 0, 1) := by decide +kernel
theorem dX9_seekParting_43 : decode cX9_seekParting 43 = .ok (.getfield 76, 3) := by decide +kernel
theorem dX9_seekParting_46 : decode cX9_seekParting 46 = .ok (.ireturn, 1) := by decide +kernel
theorem dX9_linesUnlike_0 : decode cX9_linesUnlike 0 = .ok (.aload_n 0, 1) := by decide +kernel
theorem dX9_linesUnlike_1 : decode cX9_linesUnlike 1 = .ok (.invokevirtual 102, 3) := by decide +kernel
theorem dX9_linesUnlike_4 : decode cX9_linesUnlike 4 = .ok (.aload_n 1, 1) := by decide +kernel
theorem dX9_linesUnlike_5 : decode cX9_linesUnlike 5 = .ok (.invokevirtual 102, 3) := by decide +kernel
theorem dX9_linesUnlike_8 : decode cX9_linesUnlike 8 = .ok (.iconst 0, 1) := by decide +kernel
theorem dX9_linesUnlike_9 : decode cX9_linesUnlike 9 = .ok (.istore_n 2, 1) := by decide +kernel
theorem dX9_linesUnlike_10 : decode cX9_linesUnlike 10 = .ok (.iconst 0, 1) := by decide +kernel
theorem dX9_linesUnlike_11 : decode cX9_linesUnlike 11 = .ok (.istore_n 3, 1) := by decide +kernel
theorem dX9_linesUnlike_12 : decode cX9_linesUnlike 12 = .ok (.iload_n 3, 1) := by decide +kernel
theorem dX9_linesUnlike_13 : decode cX9_linesUnlike 13 = .ok (.bipush 16, 2) := by decide +kernel
theorem dX9_linesUnlike_15 : decode cX9_linesUnlike 15 = .ok (.if_icmp .ge 25, 3) := by decide +kernel
theorem dX9_linesUnlike_18 : decode cX9_linesUnlike 18 = .ok (.aload_n 0, 1) := by decide +kernel
theorem dX9_linesUnlike_19 : decode cX9_linesUnlike 19 = .ok (.iload_n 3, 1) := by decide +kernel
theorem dX9_linesUnlike_20 : decode cX9_linesUnlike 20 = .ok (.aload_n 1, 1) := by decide +kernel
theorem dX9_linesUnlike_21 : decode cX9_linesUnlike 21 = .ok (.iload_n 3, 1) := by decide +kernel
theorem dX9_linesUnlike_22 : decode cX9_linesUnlike 22 = .ok (.invokevirtual 165, 3) := by decide +kernel
theorem dX9_linesUnlike_25 : decode cX9_linesUnlike 25 = .ok (.ifCond .ne 9, 3) := by decide +kernel
theorem dX9_linesUnlike_28 : decode cX9_linesUnlike 28 = .ok (.iload_n 2, 1) := by decide +kernel
theorem dX9_linesUnlike_29 : decode cX9_linesUnlike 29 = .ok (.iconst 1, 1) := by decide +kernel
theorem dX9_linesUnlike_30 : decode cX9_linesUnlike 30 = .ok (.iload_n 3, 1) := by decide +kernel
theorem dX9_linesUnlike_31 : decode cX9_linesUnlike 31 = .ok (.ishl, 1) := by decide +kernel
theorem dX9_linesUnlike_32 : decode cX9_linesUnlike 32 = .ok (.ior, 1) := by decide +kernel
theorem dX9_linesUnlike_33 : decode cX9_linesUnlike 33 = .ok (.istore_n 2, 1) := by decide +kernel
theorem dX9_linesUnlike_34 : decode cX9_linesUnlike 34 = .ok (.iinc 3 1, 3) := by decide +kernel
theorem dX9_linesUnlike_37 : decode cX9_linesUnlike 37 = .ok (.goto (-25), 3) := by decide +kernel
theorem dX9_linesUnlike_40 : decode cX9_linesUnlike 40 = .ok (.iload_n 2, 1) := by decide +kernel
theorem dX9_linesUnlike_41 : decode cX9_linesUnlike 41 = .ok (.ireturn, 1) := by decide +kernel
theorem dX9_endOfRun_0 : decode cX9_endOfRun 0 = .ok (.ldc 169, 2) := by decide +kernel
theorem dX9_endOfRun_2 : decode cX9_endOfRun 2 = .ok (.istore 4, 2) := by decide +kernel
theorem dX9_endOfRun_4 : decode cX9_endOfRun 4 = .ok (.iconst 0, 1) := by decide +kernel
theorem dX9_endOfRun_5 : decode cX9_endOfRun 5 = .ok (.istore 5, 2) := by decide +kernel
theorem dX9_endOfRun_7 : decode cX9_endOfRun 7 = .ok (.iconst (-1), 1) := by decide +kernel
theorem dX9_endOfRun_8 : decode cX9_endOfRun 8 = .ok (.istore 6, 2) := by decide +kernel
theorem dX9_endOfRun_10 : decode cX9_endOfRun 10 = .ok (.iconst 0, 1) := by decide +kernel
theorem dX9_endOfRun_11 : decode cX9_endOfRun 11 = .ok (.istore 7, 2) := by decide +kernel
theorem dX9_endOfRun_13 : decode cX9_endOfRun 13 = .ok (.iload 7, 2) := by decide +kernel
theorem dX9_endOfRun_15 : decode cX9_endOfRun 15 = .ok (.iload_n 2, 1) := by decide +kernel
theorem dX9_endOfRun_16 : decode cX9_endOfRun 16 = .ok (.if_icmp .ge 45, 3) := by decide +kernel
theorem dX9_endOfRun_19 : decode cX9_endOfRun 19 = .ok (.iload 7, 2) := by decide +kernel
theorem dX9_endOfRun_21 : decode cX9_endOfRun 21 = .ok (.aload_n 1, 1) := by decide +kernel
theorem dX9_endOfRun_22 : decode cX9_endOfRun 22 = .ok (.arraylength, 1) := by decide +kernel
theorem dX9_endOfRun_23 : decode cX9_endOfRun 23 = .ok (.if_icmp .ge 38, 3) := by decide +kernel
theorem dX9_endOfRun_26 : decode cX9_endOfRun 26 = .ok (.aload_n 1, 1) := by decide +kernel
theorem dX9_endOfRun_27 : decode cX9_endOfRun 27 = .ok (.iload 7, 2) := by decide +kernel
theorem dX9_endOfRun_29 : decode cX9_endOfRun 29 = .ok (.iaload, 1) := by decide +kernel
theorem dX9_endOfRun_30 : decode cX9_endOfRun 30 = .ok (.istore 6, 2) := by decide +kernel
theorem dX9_endOfRun_32 : decode cX9_endOfRun 32 = .ok (.aload_n 0, 1) := by decide +kernel
theorem dX9_endOfRun_33 : decode cX9_endOfRun 33 = .ok (.getfield 85, 3) := by decide +kernel
theorem dX9_endOfRun_36 : decode cX9_endOfRun 36 = .ok (.iload 4, 2) := by decide +kernel
theorem dX9_endOfRun_38 : decode cX9_endOfRun 38 = .ok (.iload 6, 2) := by decide +kernel
theorem dX9_endOfRun_40 : decode cX9_endOfRun 40 = .ok (.invokevirtual 170, 3) := by decide +kernel
theorem dX9_endOfRun_43 : decode cX9_endOfRun 43 = .ok (.istore 4, 2) := by decide +kernel
theorem dX9_endOfRun_45 : decode cX9_endOfRun 45 = .ok (.iload 5, 2) := by decide +kernel
theorem dX9_endOfRun_47 : decode cX9_endOfRun 47 = .ok (.iload 6, 2) := by decide +kernel
theorem dX9_endOfRun_49 : decode cX9_endOfRun 49 = .ok (.invokestatic 174, 3) := by decide +kernel
theorem dX9_endOfRun_52 : decode cX9_endOfRun 52 = .ok (.iadd, 1) := by decide +kernel
theorem dX9_endOfRun_53 : decode cX9_endOfRun 53 = .ok (.istore 5, 2) := by decide +kernel
theorem dX9_endOfRun_55 : decode cX9_endOfRun 55 = .ok (.iinc 7 1, 3) := by decide +kernel
theorem dX9_endOfRun_58 : decode cX9_endOfRun 58 = .ok (.goto (-45), 3) := by decide +kernel
theorem dX9_endOfRun_61 : decode cX9_endOfRun 61 = .ok (.iload_n 3, 1) := by decide +kernel
theorem dX9_endOfRun_62 : decode cX9_endOfRun 62 = .ok (.tableswitch 75 0 4 #[34, 47, 60, 66, 72], 34) := by decide +kernel
theorem dX9_endOfRun_96 : decode cX9_endOfRun 96 = .ok (.iload 4, 2) := by decide +kernel
theorem dX9_endOfRun_98 : decode cX9_endOfRun 98 = .ok (.bipush 16, 2) := by decide +kernel
theorem dX9_endOfRun_100 : decode cX9_endOfRun 100 = .ok (.ishr, 1) := by decide +kernel
theorem dX9_endOfRun_101 : decode cX9_endOfRun 101 = .ok (.sipush 255, 3) := by decide +kernel
theorem dX9_endOfRun_104 : decode cX9_endOfRun 104 = .ok (.iand, 1) := by decide +kernel
theorem dX9_endOfRun_105 : decode cX9_endOfRun 105 = .ok (.bipush 99, 2) := by decide +kernel
theorem dX9_endOfRun_107 : decode cX9_endOfRun 107 = .ok (.isub, 1) := by decide +kernel
theorem dX9_endOfRun_108 : decode cX9_endOfRun 108 = .ok (.ireturn, 1) := by decide +kernel
theorem dX9_endOfRun_109 : decode cX9_endOfRun 109 = .ok (.iload 4, 2) := by decide +kernel
theorem dX9_endOfRun_111 : decode cX9_endOfRun 111 = .ok (.bipush 8, 2) := by decide +kernel
theorem dX9_endOfRun_113 : decode cX9_endOfRun 113 = .ok (.ishr, 1) := by decide +kernel
theorem dX9_endOfRun_114 : decode cX9_endOfRun 114 = .ok (.sipush 255, 3) := by decide +kernel
theorem dX9_endOfRun_117 : decode cX9_endOfRun 117 = .ok (.iand, 1) := by decide +kernel
theorem dX9_endOfRun_118 : decode cX9_endOfRun 118 = .ok (.bipush 99, 2) := by decide +kernel
theorem dX9_endOfRun_120 : decode cX9_endOfRun 120 = .ok (.isub, 1) := by decide +kernel
theorem dX9_endOfRun_121 : decode cX9_endOfRun 121 = .ok (.ireturn, 1) := by decide +kernel
theorem dX9_endOfRun_122 : decode cX9_endOfRun 122 = .ok (.iload 4, 2) := by decide +kernel
theorem dX9_endOfRun_124 : decode cX9_endOfRun 124 = .ok (.invokestatic 177, 3) := by decide +kernel
theorem dX9_endOfRun_127 : decode cX9_endOfRun 127 = .ok (.ireturn, 1) := by decide +kernel
theorem dX9_endOfRun_128 : decode cX9_endOfRun 128 = .ok (.iload 4, 2) := by decide +kernel
theorem dX9_endOfRun_130 : decode cX9_endOfRun 130 = .ok (.invokestatic 180, 3) := by decide +kernel
theorem dX9_endOfRun_133 : decode cX9_endOfRun 133 = .ok (.ireturn, 1) := by decide +kernel
theorem dX9_endOfRun_134 : decode cX9_endOfRun 134 = .ok (.iload 5, 2) := by decide +kernel
theorem dX9_endOfRun_136 : decode cX9_endOfRun 136 = .ok (.ireturn, 1) := by decide +kernel
theorem dX9_endOfRun_137 : decode cX9_endOfRun 137 = .ok (.iload 6, 2) := by decide +kernel
theorem dX9_endOfRun_139 : decode cX9_endOfRun 139 = .ok (.bipush 7, 2) := by decide +kernel
theorem dX9_endOfRun_141 : decode cX9_endOfRun 141 = .ok (.if_icmp .ne 17, 3) := by decide +kernel
theorem dX9_endOfRun_144 : decode cX9_endOfRun 144 = .ok (.iload 4, 2) := by decide +kernel
theorem dX9_endOfRun_146 : decode cX9_endOfRun 146 = .ok (.invokestatic 177, 3) := by decide +kernel
theorem dX9_endOfRun_149 : decode cX9_endOfRun 149 = .ok (.iload 5, 2) := by decide +kernel
theorem dX9_endOfRun_151 : decode cX9_endOfRun 151 = .ok (.if_icmp .eq 7, 3) := by decide +kernel
theorem dX9_endOfRun_154 : decode cX9_endOfRun 154 = .ok (.iconst 1, 1) := by decide +kernel
theorem dX9_endOfRun_155 : decode cX9_endOfRun 155 = .ok (.goto 4, 3) := by decide +kernel
theorem dX9_endOfRun_158 : decode cX9_endOfRun 158 = .ok (.iconst 0, 1) := by decide +kernel
theorem dX9_endOfRun_159 : decode cX9_endOfRun 159 = .ok (.ireturn, 1) := by decide +kernel
theorem dX9_ledgerOf_0 : decode cX9_ledgerOf 0 = .ok (.iload_n 0, 1) := by decide +kernel
theorem dX9_ledgerOf_1 : decode cX9_ledgerOf 1 = .ok (.sipush 255, 3) := by decide +kernel
theorem dX9_ledgerOf_4 : decode cX9_ledgerOf 4 = .ok (.iand, 1) := by decide +kernel
theorem dX9_ledgerOf_5 : decode cX9_ledgerOf 5 = .ok (.bipush 99, 2) := by decide +kernel
theorem dX9_ledgerOf_7 : decode cX9_ledgerOf 7 = .ok (.isub, 1) := by decide +kernel
theorem dX9_ledgerOf_8 : decode cX9_ledgerOf 8 = .ok (.ireturn, 1) := by decide +kernel
theorem dX9_modeOf_0 : decode cX9_modeOf 0 = .ok (.iload_n 0, 1) := by decide +kernel
theorem dX9_modeOf_1 : decode cX9_modeOf 1 = .ok (.bipush 24, 2) := by decide +kernel
theorem dX9_modeOf_3 : decode cX9_modeOf 3 = .ok (.ishr, 1) := by decide +kernel
theorem dX9_modeOf_4 : decode cX9_modeOf 4 = .ok (.iconst 1, 1) := by decide +kernel
theorem dX9_modeOf_5 : decode cX9_modeOf 5 = .ok (.iand, 1) := by decide +kernel
theorem dX9_modeOf_6 : decode cX9_modeOf 6 = .ok (.ireturn, 1) := by decide +kernel
theorem dX9_coinsOf_0 : decode cX9_coinsOf 0 = .ok (.iload_n 0, 1) := by decide +kernel
theorem dX9_coinsOf_1 : decode cX9_coinsOf 1 = .ok (.ifCond .ne 7, 3) := by decide +kernel
theorem dX9_coinsOf_4 : decode cX9_coinsOf 4 = .ok (.iconst 1, 1) := by decide +kernel
theorem dX9_coinsOf_5 : decode cX9_coinsOf 5 = .ok (.goto 13, 3) := by decide +kernel
theorem dX9_coinsOf_8 : decode cX9_coinsOf 8 = .ok (.iload_n 0, 1) := by decide +kernel
theorem dX9_coinsOf_9 : decode cX9_coinsOf 9 = .ok (.iconst 1, 1) := by decide +kernel
theorem dX9_coinsOf_10 : decode cX9_coinsOf 10 = .ok (.if_icmp .ne 7, 3) := by decide +kernel
theorem dX9_coinsOf_13 : decode cX9_coinsOf 13 = .ok (.iconst (-1), 1) := by decide +kernel
theorem dX9_coinsOf_14 : decode cX9_coinsOf 14 = .ok (.goto 4, 3) := by decide +kernel
theorem dX9_coinsOf_17 : decode cX9_coinsOf 17 = .ok (.iconst 0, 1) := by decide +kernel
theorem dX9_coinsOf_18 : decode cX9_coinsOf 18 = .ok (.ireturn, 1) := by decide +kernel
theorem dX9_counter_0 : decode cX9_counter 0 = .ok (.aload_n 0, 1) := by decide +kernel
theorem dX9_counter_1 : decode cX9_counter 1 = .ok (.iload_n 1, 1) := by decide +kernel
theorem dX9_counter_2 : decode cX9_counter 2 = .ok (.invokevirtual 90, 3) := by decide +kernel
theorem dX9_counter_5 : decode cX9_counter 5 = .ok (.ifnonnull 6, 3) := by decide +kernel
theorem dX9_counter_8 : decode cX9_counter 8 = .ok (.bipush (-2), 2) := by decide +kernel
theorem dX9_counter_10 : decode cX9_counter 10 = .ok (.ireturn, 1) := by decide +kernel
theorem dX9_counter_11 : decode cX9_counter 11 = .ok (.aload_n 0, 1) := by decide +kernel
theorem dX9_counter_12 : decode cX9_counter 12 = .ok (.getfield 66, 3) := by decide +kernel
theorem dX9_counter_15 : decode cX9_counter 15 = .ok (.bipush 12, 2) := by decide +kernel
theorem dX9_counter_17 : decode cX9_counter 17 = .ok (.if_icmp .lt 6, 3) := by decide +kernel
theorem dX9_counter_20 : decode cX9_counter 20 = .ok (.bipush (-4), 2) := by decide +kernel
theorem dX9_counter_22 : decode cX9_counter 22 = .ok (.ireturn, 1) := by decide +kernel
theorem dX9_counter_23 : decode cX9_counter 23 = .ok (.aload_n 0, 1) := by decide +kernel
theorem dX9_counter_24 : decode cX9_counter 24 = .ok (.getfield 17, 3) := by decide +kernel
theorem dX9_counter_27 : decode cX9_counter 27 = .ok (.aload_n 0, 1) := by decide +kernel
theorem dX9_counter_28 : decode cX9_counter 28 = .ok (.getfield 66, 3) := by decide +kernel
theorem dX9_counter_31 : decode cX9_counter 31 = .ok (.new 15, 3) := by decide +kernel
theorem dX9_counter_34 : decode cX9_counter 34 = .ok (.dup, 1) := by decide +kernel
theorem dX9_counter_35 : decode cX9_counter 35 = .ok (.iload_n 1, 1) := by decide +kernel
theorem dX9_counter_36 : decode cX9_counter 36 = .ok (.invokespecial 183, 3) := by decide +kernel
theorem dX9_counter_39 : decode cX9_counter 39 = .ok (.aastore, 1) := by decide +kernel
theorem dX9_counter_40 : decode cX9_counter 40 = .ok (.aload_n 0, 1) := by decide +kernel
theorem dX9_counter_41 : decode cX9_counter 41 = .ok (.dup, 1) := by decide +kernel
theorem dX9_counter_42 : decode cX9_counter 42 = .ok (.getfield 66, 3) := by decide +kernel
theorem dX9_counter_45 : decode cX9_counter 45 = .ok (.iconst 1, 1) := by decide +kernel
theorem dX9_counter_46 : decode cX9_counter 46 = .ok (.iadd, 1) := by decide +kernel
theorem dX9_counter_47 : decode cX9_counter 47 = .ok (.putfield 66, 3) := by decide +kernel
theorem dX9_counter_50 : decode cX9_counter 50 = .ok (.aload_n 0, 1) := by decide +kernel
theorem dX9_counter_51 : decode cX9_counter 51 = .ok (.getfield 66, 3) := by decide +kernel
theorem dX9_counter_54 : decode cX9_counter 54 = .ok (.iconst 1, 1) := by decide +kernel
theorem dX9_counter_55 : decode cX9_counter 55 = .ok (.isub, 1) := by decide +kernel
theorem dX9_counter_56 : decode cX9_counter 56 = .ok (.ireturn, 1) := by decide +kernel
theorem dX9_log_0 : decode cX9_log 0 = .ok (.aload_n 0, 1) := by decide +kernel
theorem dX9_log_1 : decode cX9_log 1 = .ok (.iload_n 1, 1) := by decide +kernel
theorem dX9_log_2 : decode cX9_log 2 = .ok (.invokevirtual 186, 3) := by decide +kernel
theorem dX9_log_5 : decode cX9_log 5 = .ok (.astore 4, 2) := by decide +kernel
theorem dX9_log_7 : decode cX9_log 7 = .ok (.aload_n 0, 1) := by decide +kernel
theorem dX9_log_8 : decode cX9_log 8 = .ok (.iload_n 2, 1) := by decide +kernel
theorem dX9_log_9 : decode cX9_log 9 = .ok (.invokevirtual 119, 3) := by decide +kernel
theorem dX9_log_12 : decode cX9_log 12 = .ok (.astore 5, 2) := by decide +kernel
theorem dX9_log_14 : decode cX9_log 14 = .ok (.aload 4, 2) := by decide +kernel
theorem dX9_log_16 : decode cX9_log 16 = .ok (.ifnull 18, 3) := by decide +kernel
theorem dX9_log_19 : decode cX9_log 19 = .ok (.aload 5, 2) := by decide +kernel
theorem dX9_log_21 : decode cX9_log 21 = .ok (.ifnull 13, 3) := by decide +kernel
theorem dX9_log_24 : decode cX9_log 24 = .ok (.iload_n 3, 1) := by decide +kernel
theorem dX9_log_25 : decode cX9_log 25 = .ok (.ifCond .lt 9, 3) := by decide +kernel
theorem dX9_log_28 : decode cX9_log 28 = .ok (.iload_n 3, 1) := by decide +kernel
theorem dX9_log_29 : decode cX9_log 29 = .ok (.bipush 12, 2) := by decide +kernel
theorem dX9_log_31 : decode cX9_log 31 = .ok (.if_icmp .le 6, 3) := by decide +kernel
theorem dX9_log_34 : decode cX9_log 34 = .ok (.bipush (-2), 2) := by decide +kernel
theorem dX9_log_36 : decode cX9_log 36 = .ok (.ireturn, 1) := by decide +kernel
theorem dX9_log_37 : decode cX9_log 37 = .ok (.aload 5, 2) := by decide +kernel
theorem dX9_log_39 : decode cX9_log 39 = .ok (.getfield 123, 3) := by decide +kernel
theorem dX9_log_42 : decode cX9_log 42 = .ok (.ifCond .ne 12, 3) := by decide +kernel
theorem dX9_log_45 : decode cX9_log 45 = .ok (.iload_n 3, 1) := by decide +kernel
theorem dX9_log_46 : decode cX9_log 46 = .ok (.aload 5, 2) := by decide +kernel
theorem dX9_log_48 : decode cX9_log 48 = .ok (.getfield 127, 3) := by decide +kernel
theorem dX9_log_51 : decode cX9_log 51 = .ok (.if_icmp .le 21, 3) := by decide +kernel
theorem dX9_log_54 : decode cX9_log 54 = .ok (.aload_n 0, 1) := by decide +kernel
theorem dX9_log_55 : decode cX9_log 55 = .ok (.aload 5, 2) := by decide +kernel
theorem dX9_log_57 : decode cX9_log 57 = .ok (.getfield 123, 3) := by decide +kernel
theorem dX9_log_60 : decode cX9_log 60 = .ok (.ifCond .eq 7, 3) := by decide +kernel
theorem dX9_log_63 : decode cX9_log 63 = .ok (.iconst 1, 1) := by decide +kernel
theorem dX9_log_64 : decode cX9_log 64 = .ok (.goto 4, 3) := by decide +kernel
theorem dX9_log_67 : decode cX9_log 67 = .ok (.iconst 2, 1) := by decide +kernel
theorem dX9_log_68 : decode cX9_log 68 = .ok (.invokevirtual 190, 3) := by decide +kernel
theorem dX9_log_71 : decode cX9_log 71 = .ok (.ireturn, 1) := by decide +kernel
theorem dX9_log_72 : decode cX9_log 72 = .ok (.iload_n 3, 1) := by decide +kernel
theorem dX9_log_73 : decode cX9_log 73 = .ok (.aload 5, 2) := by decide +kernel
theorem dX9_log_75 : decode cX9_log 75 = .ok (.iload_n 3, 1) := by decide +kernel
theorem dX9_log_76 : decode cX9_log 76 = .ok (.invokevirtual 130, 3) := by decide +kernel
theorem dX9_log_79 : decode cX9_log 79 = .ok (.isub, 1) := by decide +kernel
theorem dX9_log_80 : decode cX9_log 80 = .ok (.iconst 3, 1) := by decide +kernel
theorem dX9_log_81 : decode cX9_log 81 = .ok (.if_icmp .le 6, 3) := by decide +kernel
theorem dX9_log_84 : decode cX9_log 84 = .ok (.bipush (-3), 2) := by decide +kernel
theorem dX9_log_86 : decode cX9_log 86 = .ok (.ireturn, 1) := by decide +kernel
theorem dX9_log_87 : decode cX9_log 87 = .ok (.aload 4, 2) := by decide +kernel
theorem dX9_log_89 : decode cX9_log 89 = .ok (.aload 5, 2) := by decide +kernel
theorem dX9_log_91 : decode cX9_log 91 = .ok (.iload_n 3, 1) := by decide +kernel
theorem dX9_log_92 : decode cX9_log 92 = .ok (.invokevirtual 193, 3) := by decide +kernel
theorem dX9_log_95 : decode cX9_log 95 = .ok (.ireturn, 1) := by decide +kernel
theorem dX9_claim_0 : decode cX9_claim 0 = .ok (.aload_n 0, 1) := by decide +kernel
theorem dX9_claim_1 : decode cX9_claim 1 = .ok (.iload_n 1, 1) := by decide +kernel
theorem dX9_claim_2 : decode cX9_claim 2 = .ok (.invokevirtual 186, 3) := by decide +kernel
theorem dX9_claim_5 : decode cX9_claim 5 = .ok (.astore 4, 2) := by decide +kernel
theorem dX9_claim_7 : decode cX9_claim 7 = .ok (.aload 4, 2) := by decide +kernel
theorem dX9_claim_9 : decode cX9_claim 9 = .ok (.ifnull 23, 3) := by decide +kernel
theorem dX9_claim_12 : decode cX9_claim 12 = .ok (.iload_n 2, 1) := by decide +kernel
theorem dX9_claim_13 : decode cX9_claim 13 = .ok (.iload_n 3, 1) := by decide +kernel
theorem dX9_claim_14 : decode cX9_claim 14 = .ok (.invokestatic 197, 3) := by decide +kernel
theorem dX9_claim_17 : decode cX9_claim 17 = .ok (.bipush 99, 2) := by decide +kernel
theorem dX9_claim_19 : decode cX9_claim 19 = .ok (.if_icmp .gt 13, 3) := by decide +kernel
theorem dX9_claim_22 : decode cX9_claim 22 = .ok (.iload_n 2, 1) := by decide +kernel
theorem dX9_claim_23 : decode cX9_claim 23 = .ok (.iload_n 3, 1) := by decide +kernel
theorem dX9_claim_24 : decode cX9_claim 24 = .ok (.invokestatic 202, 3) := by decide +kernel
theorem dX9_claim_27 : decode cX9_claim 27 = .ok (.bipush (-99), 2) := by decide +kernel
theorem dX9_claim_29 : decode cX9_claim 29 = .ok (.if_icmp .ge 6, 3) := by decide +kernel
theorem dX9_claim_32 : decode cX9_claim 32 = .ok (.bipush (-2), 2) := by decide +kernel
theorem dX9_claim_34 : decode cX9_claim 34 = .ok (.ireturn, 1) := by decide +kernel
theorem dX9_claim_35 : decode cX9_claim 35 = .ok (.aload 4, 2) := by decide +kernel
theorem dX9_claim_37 : decode cX9_claim 37 = .ok (.iload_n 2, 1) := by decide +kernel
theorem dX9_claim_38 : decode cX9_claim 38 = .ok (.putfield 205, 3) := by decide +kernel
theorem dX9_claim_41 : decode cX9_claim 41 = .ok (.aload 4, 2) := by decide +kernel
theorem dX9_claim_43 : decode cX9_claim 43 = .ok (.iload_n 3, 1) := by decide +kernel
theorem dX9_claim_44 : decode cX9_claim 44 = .ok (.putfield 208, 3) := by decide +kernel
theorem dX9_claim_47 : decode cX9_claim 47 = .ok (.aload 4, 2) := by decide +kernel
theorem dX9_claim_49 : decode cX9_claim 49 = .ok (.iconst (-1), 1) := by decide +kernel
theorem dX9_claim_50 : decode cX9_claim 50 = .ok (.putfield 211, 3) := by decide +kernel
theorem dX9_claim_53 : decode cX9_claim 53 = .ok (.iconst 1, 1) := by decide +kernel
theorem dX9_claim_54 : decode cX9_claim 54 = .ok (.ireturn, 1) := by decide +kernel
theorem dX9_about_0 : decode cX9_about 0 = .ok (.aload_n 0, 1) := by decide +kernel
theorem dX9_about_1 : decode cX9_about 1 = .ok (.iload_n 1, 1) := by decide +kernel
theorem dX9_about_2 : decode cX9_about 2 = .ok (.invokevirtual 186, 3) := by decide +kernel
theorem dX9_about_5 : decode cX9_about 5 = .ok (.astore_n 3, 1) := by decide +kernel
theorem dX9_about_6 : decode cX9_about 6 = .ok (.aload_n 3, 1) := by decide +kernel
theorem dX9_about_7 : decode cX9_about 7 = .ok (.ifnonnull 9, 3) := by decide +kernel
theorem dX9_about_10 : decode cX9_about 10 = .ok (.sipush (-1000), 3) := by decide +kernel
theorem dX9_about_13 : decode cX9_about 13 = .ok (.goto 8, 3) := by decide +kernel
theorem dX9_about_16 : decode cX9_about 16 = .ok (.aload_n 3, 1) := by decide +kernel
theorem dX9_about_17 : decode cX9_about 17 = .ok (.iload_n 2, 1) := by decide +kernel
theorem dX9_about_18 : decode cX9_about 18 = .ok (.invokevirtual 214, 3) := by decide +kernel
theorem dX9_about_21 : decode cX9_about 21 = .ok (.ireturn, 1) := by decide +kernel
theorem dX9_tell_0 : decode cX9_tell 0 = .ok (.aload_n 0, 1) := by decide +kernel
theorem dX9_tell_1 : decode cX9_tell 1 = .ok (.iload_n 1, 1) := by decide +kernel
theorem dX9_tell_2 : decode cX9_tell 2 = .ok (.invokevirtual 186, 3) := by decide +kernel
theorem dX9_tell_5 : decode cX9_tell 5 = .ok (.astore 4, 2) := by decide +kernel
theorem dX9_tell_7 : decode cX9_tell 7 = .ok (.aload 4, 2) := by decide +kernel
theorem dX9_tell_9 : decode cX9_tell 9 = .ok (.ifnonnull 8, 3) := by decide +kernel
theorem dX9_tell_12 : decode cX9_tell 12 = .ok (.bipush (-2), 2) := by decide +kernel
theorem dX9_tell_14 : decode cX9_tell 14 = .ok (.goto 10, 3) := by decide +kernel
theorem dX9_tell_17 : decode cX9_tell 17 = .ok (.aload 4, 2) := by decide +kernel
theorem dX9_tell_19 : decode cX9_tell 19 = .ok (.iload_n 2, 1) := by decide +kernel
theorem dX9_tell_20 : decode cX9_tell 20 = .ok (.iload_n 3, 1) := by decide +kernel
theorem dX9_tell_21 : decode cX9_tell 21 = .ok (.invokevirtual 217, 3) := by decide +kernel
theorem dX9_tell_24 : decode cX9_tell 24 = .ok (.ireturn, 1) := by decide +kernel
theorem dX9_logged_0 : decode cX9_logged 0 = .ok (.aload_n 0, 1) := by decide +kernel
theorem dX9_logged_1 : decode cX9_logged 1 = .ok (.iload_n 1, 1) := by decide +kernel
theorem dX9_logged_2 : decode cX9_logged 2 = .ok (.invokevirtual 186, 3) := by decide +kernel
theorem dX9_logged_5 : decode cX9_logged 5 = .ok (.astore_n 3, 1) := by decide +kernel
theorem dX9_logged_6 : decode cX9_logged 6 = .ok (.aload_n 3, 1) := by decide +kernel
theorem dX9_logged_7 : decode cX9_logged 7 = .ok (.ifnull 15, 3) := by decide +kernel
theorem dX9_logged_10 : decode cX9_logged 10 = .ok (.iload_n 2, 1) := by decide +kernel
theorem dX9_logged_11 : decode cX9_logged 11 = .ok (.ifCond .lt 11, 3) := by decide +kernel
theorem dX9_logged_14 : decode cX9_logged 14 = .ok (.iload_n 2, 1) := by decide +kernel
theorem dX9_logged_15 : decode cX9_logged 15 = .ok (.aload_n 3, 1) := by decide +kernel
theorem dX9_logged_16 : decode cX9_logged 16 = .ok (.getfield 220, 3) := by decide +kernel
theorem dX9_logged_19 : decode cX9_logged 19 = .ok (.if_icmp .lt 8, 3) := by decide +kernel
theorem dX9_logged_22 : decode cX9_logged 22 = .ok (.bipush (-2), 2) := by decide +kernel
theorem dX9_logged_24 : decode cX9_logged 24 = .ok (.goto 9, 3) := by decide +kernel
theorem dX9_logged_27 : decode cX9_logged 27 = .ok (.aload_n 3, 1) := by decide +kernel
theorem dX9_logged_28 : decode cX9_logged 28 = .ok (.getfield 221, 3) := by decide +kernel
theorem dX9_logged_31 : decode cX9_logged 31 = .ok (.iload_n 2, 1) := by decide +kernel
theorem dX9_logged_32 : decode cX9_logged 32 = .ok (.iaload, 1) := by decide +kernel
theorem dX9_logged_33 : decode cX9_logged 33 = .ok (.ireturn, 1) := by decide +kernel
theorem dX9_fills_0 : decode cX9_fills 0 = .ok (.aload_n 0, 1) := by decide +kernel
theorem dX9_fills_1 : decode cX9_fills 1 = .ok (.iload_n 1, 1) := by decide +kernel
theorem dX9_fills_2 : decode cX9_fills 2 = .ok (.invokevirtual 186, 3) := by decide +kernel
theorem dX9_fills_5 : decode cX9_fills 5 = .ok (.astore_n 3, 1) := by decide +kernel
theorem dX9_fills_6 : decode cX9_fills 6 = .ok (.aload_n 3, 1) := by decide +kernel
theorem dX9_fills_7 : decode cX9_fills 7 = .ok (.ifnull 12, 3) := by decide +kernel
theorem dX9_fills_10 : decode cX9_fills 10 = .ok (.iload_n 2, 1) := by decide +kernel
theorem dX9_fills_11 : decode cX9_fills 11 = .ok (.ifCond .lt 8, 3) := by decide +kernel
theorem dX9_fills_14 : decode cX9_fills 14 = .ok (.iload_n 2, 1) := by decide +kernel
theorem dX9_fills_15 : decode cX9_fills 15 = .ok (.iconst 3, 1) := by decide +kernel
theorem dX9_fills_16 : decode cX9_fills 16 = .ok (.if_icmp .le 6, 3) := by decide +kernel
theorem dX9_fills_19 : decode cX9_fills 19 = .ok (.bipush (-2), 2) := by decide +kernel
theorem dX9_fills_21 : decode cX9_fills 21 = .ok (.ireturn, 1) := by decide +kernel
theorem dX9_fills_22 : decode cX9_fills 22 = .ok (.aload_n 0, 1) := by decide +kernel
theorem dX9_fills_23 : decode cX9_fills 23 = .ok (.aload_n 3, 1) := by decide +kernel
theorem dX9_fills_24 : decode cX9_fills 24 = .ok (.invokevirtual 224, 3) := by decide +kernel
theorem dX9_fills_27 : decode cX9_fills 27 = .ok (.aload_n 3, 1) := by decide +kernel
theorem dX9_fills_28 : decode cX9_fills 28 = .ok (.getfield 228, 3) := by decide +kernel
theorem dX9_fills_31 : decode cX9_fills 31 = .ok (.iload_n 2, 1) := by decide +kernel
theorem dX9_fills_32 : decode cX9_fills 32 = .ok (.iaload, 1) := by decide +kernel
theorem dX9_fills_33 : decode cX9_fills 33 = .ok (.ireturn, 1) := by decide +kernel
theorem dX9_causes_0 : decode cX9_causes 0 = .ok (.aload_n 0, 1) := by decide +kernel
theorem dX9_causes_1 : decode cX9_causes 1 = .ok (.iload_n 1, 1) := by decide +kernel
theorem dX9_causes_2 : decode cX9_causes 2 = .ok (.invokevirtual 186, 3) := by decide +kernel
theorem dX9_causes_5 : decode cX9_causes 5 = .ok (.astore_n 2, 1) := by decide +kernel
theorem dX9_causes_6 : decode cX9_causes 6 = .ok (.aload_n 2, 1) := by decide +kernel
theorem dX9_causes_7 : decode cX9_causes 7 = .ok (.ifnonnull 6, 3) := by decide +kernel
theorem dX9_causes_10 : decode cX9_causes 10 = .ok (.bipush (-2), 2) := by decide +kernel
theorem dX9_causes_12 : decode cX9_causes 12 = .ok (.ireturn, 1) := by decide +kernel
theorem dX9_causes_13 : decode cX9_causes 13 = .ok (.aload_n 0, 1) := by decide +kernel
theorem dX9_causes_14 : decode cX9_causes 14 = .ok (.aload_n 2, 1) := by decide +kernel
theorem dX9_causes_15 : decode cX9_causes 15 = .ok (.invokevirtual 224, 3) := by decide +kernel
theorem dX9_causes_18 : decode cX9_causes 18 = .ok (.aload_n 2, 1) := by decide +kernel
theorem dX9_causes_19 : decode cX9_causes 19 = .ok (.getfield 231, 3) := by decide +kernel
theorem dX9_causes_22 : decode cX9_causes 22 = .ok (.ireturn, 1) := by decide +kernel
theorem dX9_settling_0 : decode cX9_settling 0 = .ok (.aload_n 0, 1) := by decide +kernel
theorem dX9_settling_1 : decode cX9_settling 1 = .ok (.iload_n 1, 1) := by decide +kernel
theorem dX9_settling_2 : decode cX9_settling 2 = .ok (.invokevirtual 186, 3) := by decide +kernel
theorem dX9_settling_5 : decode cX9_settling 5 = .ok (.astore_n 3, 1) := by decide +kernel
theorem dX9_settling_6 : decode cX9_settling 6 = .ok (.aload_n 3, 1) := by decide +kernel
theorem dX9_settling_7 : decode cX9_settling 7 = .ok (.ifnull 12, 3) := by decide +kernel
theorem dX9_settling_10 : decode cX9_settling 10 = .ok (.iload_n 2, 1) := by decide +kernel
theorem dX9_settling_11 : decode cX9_settling 11 = .ok (.ifCond .lt 8, 3) := by decide +kernel
theorem dX9_settling_14 : decode cX9_settling 14 = .ok (.iload_n 2, 1) := by decide +kernel
theorem dX9_settling_15 : decode cX9_settling 15 = .ok (.iconst 1, 1) := by decide +kernel
theorem dX9_settling_16 : decode cX9_settling 16 = .ok (.if_icmp .le 6, 3) := by decide +kernel
theorem dX9_settling_19 : decode cX9_settling 19 = .ok (.bipush (-2), 2) := by decide +kernel
theorem dX9_settling_21 : decode cX9_settling 21 = .ok (.ireturn, 1) := by decide +kernel
theorem dX9_settling_22 : decode cX9_settling 22 = .ok (.aload_n 0, 1) := by decide +kernel
theorem dX9_settling_23 : decode cX9_settling 23 = .ok (.aload_n 3, 1) := by decide +kernel
theorem dX9_settling_24 : decode cX9_settling 24 = .ok (.invokevirtual 224, 3) := by decide +kernel
theorem dX9_settling_27 : decode cX9_settling 27 = .ok (.aload_n 3, 1) := by decide +kernel
theorem dX9_settling_28 : decode cX9_settling 28 = .ok (.getfield 231, 3) := by decide +kernel
theorem dX9_settling_31 : decode cX9_settling 31 = .ok (.ifCond .ne 6, 3) := by decide +kernel
theorem dX9_settling_34 : decode cX9_settling 34 = .ok (.bipush (-3), 2) := by decide +kernel
theorem dX9_settling_36 : decode cX9_settling 36 = .ok (.ireturn, 1) := by decide +kernel
theorem dX9_settling_37 : decode cX9_settling 37 = .ok (.iload_n 2, 1) := by decide +kernel
theorem dX9_settling_38 : decode cX9_settling 38 = .ok (.ifCond .ne 10, 3) := by decide +kernel
theorem dX9_settling_41 : decode cX9_settling 41 = .ok (.aload_n 3, 1) := by decide +kernel
theorem dX9_settling_42 : decode cX9_settling 42 = .ok (.getfield 234, 3) := by decide +kernel
theorem dX9_settling_45 : decode cX9_settling 45 = .ok (.goto 15, 3) := by decide +kernel
theorem dX9_settling_48 : decode cX9_settling 48 = .ok (.aload_n 3, 1) := by decide +kernel
theorem dX9_settling_49 : decode cX9_settling 49 = .ok (.getfield 234, 3) := by decide +kernel
theorem dX9_settling_52 : decode cX9_settling 52 = .ok (.invokestatic 147, 3) := by decide +kernel
theorem dX9_settling_55 : decode cX9_settling 55 = .ok (.aload_n 3, 1) := by decide +kernel
theorem dX9_settling_56 : decode cX9_settling 56 = .ok (.getfield 237, 3) := by decide +kernel
theorem dX9_settling_59 : decode cX9_settling 59 = .ok (.imul, 1) := by decide +kernel
theorem dX9_settling_60 : decode cX9_settling 60 = .ok (.ireturn, 1) := by decide +kernel
theorem dX9_like_0 : decode cX9_like 0 = .ok (.aload_n 0, 1) := by decide +kernel
theorem dX9_like_1 : decode cX9_like 1 = .ok (.iload_n 1, 1) := by decide +kernel
theorem dX9_like_2 : decode cX9_like 2 = .ok (.invokevirtual 186, 3) := by decide +kernel
theorem dX9_like_5 : decode cX9_like 5 = .ok (.astore_n 3, 1) := by decide +kernel
theorem dX9_like_6 : decode cX9_like 6 = .ok (.aload_n 3, 1) := by decide +kernel
theorem dX9_like_7 : decode cX9_like 7 = .ok (.ifnull 16, 3) := by decide +kernel
theorem dX9_like_10 : decode cX9_like 10 = .ok (.iload_n 2, 1) := by decide +kernel
theorem dX9_like_11 : decode cX9_like 11 = .ok (.iconst 1, 1) := by decide +kernel
theorem dX9_like_12 : decode cX9_like 12 = .ok (.if_icmp .lt 11, 3) := by decide +kernel
theorem dX9_like_15 : decode cX9_like 15 = .ok (.iload_n 2, 1) := by decide +kernel
theorem dX9_like_16 : decode cX9_like 16 = .ok (.aload_n 3, 1) := by decide +kernel
theorem dX9_like_17 : decode cX9_like 17 = .ok (.getfield 220, 3) := by decide +kernel
theorem dX9_like_20 : decode cX9_like 20 = .ok (.if_icmp .le 6, 3) := by decide +kernel
theorem dX9_like_23 : decode cX9_like 23 = .ok (.bipush (-2), 2) := by decide +kernel
theorem dX9_like_25 : decode cX9_like 25 = .ok (.ireturn, 1) := by decide +kernel
theorem dX9_like_26 : decode cX9_like 26 = .ok (.aload_n 3, 1) := by decide +kernel
theorem dX9_like_27 : decode cX9_like 27 = .ok (.aload_n 3, 1) := by decide +kernel
theorem dX9_like_28 : decode cX9_like 28 = .ok (.getfield 220, 3) := by decide +kernel
theorem dX9_like_31 : decode cX9_like 31 = .ok (.iload_n 2, 1) := by decide +kernel
theorem dX9_like_32 : decode cX9_like 32 = .ok (.isub, 1) := by decide +kernel
theorem dX9_like_33 : decode cX9_like 33 = .ok (.invokevirtual 240, 3) := by decide +kernel
theorem dX9_like_36 : decode cX9_like 36 = .ok (.ifCond .eq 6, 3) := by decide +kernel
theorem dX9_like_39 : decode cX9_like 39 = .ok (.bipush (-3), 2) := by decide +kernel
theorem dX9_like_41 : decode cX9_like 41 = .ok (.ireturn, 1) := by decide +kernel
theorem dX9_like_42 : decode cX9_like 42 = .ok (.iconst 0, 1) := by decide +kernel
theorem dX9_like_43 : decode cX9_like 43 = .ok (.istore 4, 2) := by decide +kernel
theorem dX9_like_45 : decode cX9_like 45 = .ok (.iconst 0, 1) := by decide +kernel
theorem dX9_like_46 : decode cX9_like 46 = .ok (.istore 5, 2) := by decide +kernel
theorem dX9_like_48 : decode cX9_like 48 = .ok (.iload 5, 2) := by decide +kernel
theorem dX9_like_50 : decode cX9_like 50 = .ok (.aload_n 0, 1) := by decide +kernel
theorem dX9_like_51 : decode cX9_like 51 = .ok (.getfield 66, 3) := by decide +kernel
theorem dX9_like_54 : decode cX9_like 54 = .ok (.if_icmp .ge 59, 3) := by decide +kernel
theorem dX9_like_57 : decode cX9_like 57 = .ok (.aload_n 0, 1) := by decide +kernel
theorem dX9_like_58 : decode cX9_like 58 = .ok (.iload 5, 2) := by decide +kernel
theorem dX9_like_60 : decode cX9_like 60 = .ok (.invokevirtual 186, 3) := by decide +kernel
theorem dX9_like_63 : decode cX9_like 63 = .ok (.astore 6, 2) := by decide +kernel
theorem dX9_like_65 : decode cX9_like 65 = .ok (.iload 5, 2) := by decide +kernel
theorem dX9_like_67 : decode cX9_like 67 = .ok (.iload_n 1, 1) := by decide +kernel
theorem dX9_like_68 : decode cX9_like 68 = .ok (.if_icmp .eq 39, 3) := by decide +kernel
theorem dX9_like_71 : decode cX9_like 71 = .ok (.aload 6, 2) := by decide +kernel
theorem dX9_like_73 : decode cX9_like 73 = .ok (.ifnull 34, 3) := by decide +kernel
theorem dX9_like_76 : decode cX9_like 76 = .ok (.aload 6, 2) := by decide +kernel
theorem dX9_like_78 : decode cX9_like 78 = .ok (.getfield 244, 3) := by decide +kernel
theorem dX9_like_81 : decode cX9_like 81 = .ok (.aload_n 3, 1) := by decide +kernel
theorem dX9_like_82 : decode cX9_like 82 = .ok (.getfield 244, 3) := by decide +kernel
theorem dX9_like_85 : decode cX9_like 85 = .ok (.if_icmp .ne 22, 3) := by decide +kernel
theorem dX9_like_88 : decode cX9_like 88 = .ok (.aload 6, 2) := by decide +kernel
theorem dX9_like_90 : decode cX9_like 90 = .ok (.aload_n 3, 1) := by decide +kernel
theorem dX9_like_91 : decode cX9_like 91 = .ok (.iload_n 2, 1) := by decide +kernel
theorem dX9_like_92 : decode cX9_like 92 = .ok (.invokevirtual 247, 3) := by decide +kernel
theorem dX9_like_95 : decode cX9_like 95 = .ok (.ifCond .eq 12, 3) := by decide +kernel
theorem dX9_like_98 : decode cX9_like 98 = .ok (.iload 4, 2) := by decide +kernel
theorem dX9_like_100 : decode cX9_like 100 = .ok (.iconst 1, 1) := by decide +kernel
theorem dX9_like_101 : decode cX9_like 101 = .ok (.iload 5, 2) := by decide +kernel
theorem dX9_like_103 : decode cX9_like 103 = .ok (.ishl, 1) := by decide +kernel
theorem dX9_like_104 : decode cX9_like 104 = .ok (.ior, 1) := by decide +kernel
theorem dX9_like_105 : decode cX9_like 105 = .ok (.istore 4, 2) := by decide +kernel
theorem dX9_like_107 : decode cX9_like 107 = .ok (.iinc 5 1, 3) := by decide +kernel
theorem dX9_like_110 : decode cX9_like 110 = .ok (.goto (-62), 3) := by decide +kernel
theorem dX9_like_113 : decode cX9_like 113 = .ok (.iload 4, 2) := by decide +kernel
theorem dX9_like_115 : decode cX9_like 115 = .ok (.ireturn, 1) := by decide +kernel
theorem dX9_counterAt_0 : decode cX9_counterAt 0 = .ok (.iload_n 1, 1) := by decide +kernel
theorem dX9_counterAt_1 : decode cX9_counterAt 1 = .ok (.ifCond .lt 17, 3) := by decide +kernel
theorem dX9_counterAt_4 : decode cX9_counterAt 4 = .ok (.iload_n 1, 1) := by decide +kernel
theorem dX9_counterAt_5 : decode cX9_counterAt 5 = .ok (.aload_n 0, 1) := by decide +kernel
theorem dX9_counterAt_6 : decode cX9_counterAt 6 = .ok (.getfield 66, 3) := by decide +kernel
theorem dX9_counterAt_9 : decode cX9_counterAt 9 = .ok (.if_icmp .ge 9, 3) := by decide +kernel
theorem dX9_counterAt_12 : decode cX9_counterAt 12 = .ok (.iload_n 1, 1) := by decide +kernel
theorem dX9_counterAt_13 : decode cX9_counterAt 13 = .ok (.bipush 12, 2) := by decide +kernel
theorem dX9_counterAt_15 : decode cX9_counterAt 15 = .ok (.if_icmp .lt 7, 3) := by decide +kernel
theorem dX9_counterAt_18 : decode cX9_counterAt 18 = .ok (.aconst_null, 1) := by decide +kernel
theorem dX9_counterAt_19 : decode cX9_counterAt 19 = .ok (.goto 9, 3) := by decide +kernel
theorem dX9_counterAt_22 : decode cX9_counterAt 22 = .ok (.aload_n 0, 1) := by decide +kernel
theorem dX9_counterAt_23 : decode cX9_counterAt 23 = .ok (.getfield 17, 3) := by decide +kernel
theorem dX9_counterAt_26 : decode cX9_counterAt 26 = .ok (.iload_n 1, 1) := by decide +kernel
theorem dX9_counterAt_27 : decode cX9_counterAt 27 = .ok (.aaload, 1) := by decide +kernel
theorem dX9_counterAt_28 : decode cX9_counterAt 28 = .ok (.areturn, 1) := by decide +kernel
theorem dX9_judge_0 : decode cX9_judge 0 = .ok (.aload_n 0, 1) := by decide +kernel
theorem dX9_judge_1 : decode cX9_judge 1 = .ok (.aload_n 1, 1) := by decide +kernel
theorem dX9_judge_2 : decode cX9_judge 2 = .ok (.getfield 244, 3) := by decide +kernel
theorem dX9_judge_5 : decode cX9_judge 5 = .ok (.invokevirtual 90, 3) := by decide +kernel
theorem dX9_judge_8 : decode cX9_judge 8 = .ok (.astore_n 2, 1) := by decide +kernel
theorem dX9_judge_9 : decode cX9_judge 9 = .ok (.aload_n 2, 1) := by decide +kernel
theorem dX9_judge_10 : decode cX9_judge 10 = .ok (.ifnull 44, 3) := by decide +kernel
theorem dX9_judge_13 : decode cX9_judge 13 = .ok (.aload_n 1, 1) := by decide +kernel
theorem dX9_judge_14 : decode cX9_judge 14 = .ok (.getfield 211, 3) := by decide +kernel
theorem dX9_judge_17 : decode cX9_judge 17 = .ok (.aload_n 2, 1) := by decide +kernel
theorem dX9_judge_18 : decode cX9_judge 18 = .ok (.getfield 251, 3) := by decide +kernel
theorem dX9_judge_21 : decode cX9_judge 21 = .ok (.if_icmp .eq 33, 3) := by decide +kernel
theorem dX9_judge_24 : decode cX9_judge 24 = .ok (.aload_n 0, 1) := by decide +kernel
theorem dX9_judge_25 : decode cX9_judge 25 = .ok (.getfield 85, 3) := by decide +kernel
theorem dX9_judge_28 : decode cX9_judge 28 = .ok (.aload_n 2, 1) := by decide +kernel
theorem dX9_judge_29 : decode cX9_judge 29 = .ok (.aload_n 2, 1) := by decide +kernel
theorem dX9_judge_30 : decode cX9_judge 30 = .ok (.iconst 0, 1) := by decide +kernel
theorem dX9_judge_31 : decode cX9_judge 31 = .ok (.invokevirtual 152, 3) := by decide +kernel
theorem dX9_judge_34 : decode cX9_judge 34 = .ok (.aload_n 0, 1) := by decide +kernel
theorem dX9_judge_35 : decode cX9_judge 35 = .ok (.getfield 48, 3) := by decide +kernel
theorem dX9_judge_38 : decode cX9_judge 38 = .ok (.aload_n 1, 1) := by decide +kernel
theorem dX9_judge_39 : decode cX9_judge 39 = .ok (.aload_n 0, 1) := by decide +kernel
theorem dX9_judge_40 : decode cX9_judge 40 = .ok (.getfield 85, 3) := by decide +kernel
theorem dX9_judge_43 : decode cX9_judge 43 = .ok (.invokevirtual 254, 3) := by decide +kernel
theorem dX9_judge_46 : decode cX9_judge 46 = .ok (.aload_n 1, 1) := by decide +kernel
theorem dX9_judge_47 : decode cX9_judge 47 = .ok (.aload_n 2, 1) := by decide +kernel
theorem dX9_judge_48 : decode cX9_judge 48 = .ok (.getfield 251, 3) := by decide +kernel
theorem dX9_judge_51 : decode cX9_judge 51 = .ok (.putfield 211, 3) := by decide +kernel
theorem dX9_judge_54 : decode cX9_judge 54 = .ok (.return_, 1) := by decide +kernel
theorem dX9_pay_0 : decode cX9_pay 0 = .ok (.aload_n 0, 1) := by decide +kernel
theorem dX9_pay_1 : decode cX9_pay 1 = .ok (.iload_n 1, 1) := by decide +kernel
theorem dX9_pay_2 : decode cX9_pay 2 = .ok (.invokevirtual 186, 3) := by decide +kernel
theorem dX9_pay_5 : decode cX9_pay 5 = .ok (.ifnull 22, 3) := by decide +kernel
theorem dX9_pay_8 : decode cX9_pay 8 = .ok (.iload_n 2, 1) := by decide +kernel
theorem dX9_pay_9 : decode cX9_pay 9 = .ok (.invokestatic 257, 3) := by decide +kernel
theorem dX9_pay_12 : decode cX9_pay 12 = .ok (.ifCond .eq 15, 3) := by decide +kernel
theorem dX9_pay_15 : decode cX9_pay 15 = .ok (.iload_n 3, 1) := by decide +kernel
theorem dX9_pay_16 : decode cX9_pay 16 = .ok (.iconst 1, 1) := by decide +kernel
theorem dX9_pay_17 : decode cX9_pay 17 = .ok (.if_icmp .lt 10, 3) := by decide +kernel
theorem dX9_pay_20 : decode cX9_pay 20 = .ok (.iload_n 3, 1) := by decide +kernel
theorem dX9_pay_21 : decode cX9_pay 21 = .ok (.sipush 1000, 3) := by decide +kernel
theorem dX9_pay_24 : decode cX9_pay 24 = .ok (.if_icmp .le 6, 3) := by decide +kernel
theorem dX9_pay_27 : decode cX9_pay 27 = .ok (.bipush (-2), 2) := by decide +kernel
theorem dX9_pay_29 : decode cX9_pay 29 = .ok (.ireturn, 1) := by decide +kernel
theorem dX9_pay_30 : decode cX9_pay 30 = .ok (.aload_n 0, 1) := by decide +kernel
theorem dX9_pay_31 : decode cX9_pay 31 = .ok (.getfield 55, 3) := by decide +kernel
theorem dX9_pay_34 : decode cX9_pay 34 = .ok (.iload_n 1, 1) := by decide +kernel
theorem dX9_pay_35 : decode cX9_pay 35 = .ok (.iload_n 2, 1) := by decide +kernel
theorem dX9_pay_36 : decode cX9_pay 36 = .ok (.iload_n 3, 1) := by decide +kernel
theorem dX9_pay_37 : decode cX9_pay 37 = .ok (.invokevirtual 260, 3) := by decide +kernel
theorem dX9_pay_40 : decode cX9_pay 40 = .ok (.ireturn, 1) := by decide +kernel
theorem dX9_interest_0 : decode cX9_interest 0 = .ok (.iload_n 1, 1) := by decide +kernel
theorem dX9_interest_1 : decode cX9_interest 1 = .ok (.ifCond .lt 9, 3) := by decide +kernel
theorem dX9_interest_4 : decode cX9_interest 4 = .ok (.iload_n 1, 1) := by decide +kernel
theorem dX9_interest_5 : decode cX9_interest 5 = .ok (.bipush 100, 2) := by decide +kernel
theorem dX9_interest_7 : decode cX9_interest 7 = .ok (.if_icmp .le 6, 3) := by decide +kernel
theorem dX9_interest_10 : decode cX9_interest 10 = .ok (.bipush (-2), 2) := by decide +kernel
theorem dX9_interest_12 : decode cX9_interest 12 = .ok (.ireturn, 1) := by decide +kernel
theorem dX9_interest_13 : decode cX9_interest 13 = .ok (.aload_n 0, 1) := by decide +kernel
theorem dX9_interest_14 : decode cX9_interest 14 = .ok (.getfield 55, 3) := by decide +kernel
theorem dX9_interest_17 : decode cX9_interest 17 = .ok (.getfield 263, 3) := by decide +kernel
theorem dX9_interest_20 : decode cX9_interest 20 = .ok (.istore_n 2, 1) := by decide +kernel
theorem dX9_interest_21 : decode cX9_interest 21 = .ok (.aload_n 0, 1) := by decide +kernel
theorem dX9_interest_22 : decode cX9_interest 22 = .ok (.getfield 55, 3) := by decide +kernel
theorem dX9_interest_25 : decode cX9_interest 25 = .ok (.iload_n 1, 1) := by decide +kernel
theorem dX9_interest_26 : decode cX9_interest 26 = .ok (.putfield 263, 3) := by decide +kernel
theorem dX9_interest_29 : decode cX9_interest 29 = .ok (.iload_n 2, 1) := by decide +kernel
theorem dX9_interest_30 : decode cX9_interest 30 = .ok (.ireturn, 1) := by decide +kernel
theorem dX9_owed_0 : decode cX9_owed 0 = .ok (.iload_n 1, 1) := by decide +kernel
theorem dX9_owed_1 : decode cX9_owed 1 = .ok (.iconst (-1), 1) := by decide +kernel
theorem dX9_owed_2 : decode cX9_owed 2 = .ok (.if_icmp .eq 11, 3) := by decide +kernel
theorem dX9_owed_5 : decode cX9_owed 5 = .ok (.aload_n 0, 1) := by decide +kernel
theorem dX9_owed_6 : decode cX9_owed 6 = .ok (.iload_n 1, 1) := by decide +kernel
theorem dX9_owed_7 : decode cX9_owed 7 = .ok (.invokevirtual 186, 3) := by decide +kernel
theorem dX9_owed_10 : decode cX9_owed 10 = .ok (.ifnull 10, 3) := by decide +kernel
theorem dX9_owed_13 : decode cX9_owed 13 = .ok (.iload_n 2, 1) := by decide +kernel
theorem dX9_owed_14 : decode cX9_owed 14 = .ok (.invokestatic 257, 3) := by decide +kernel
theorem dX9_owed_17 : decode cX9_owed 17 = .ok (.ifCond .ne 6, 3) := by decide +kernel
theorem dX9_owed_20 : decode cX9_owed 20 = .ok (.bipush (-2), 2) := by decide +kernel
theorem dX9_owed_22 : decode cX9_owed 22 = .ok (.ireturn, 1) := by decide +kernel
theorem dX9_owed_23 : decode cX9_owed 23 = .ok (.aload_n 0, 1) := by decide +kernel
theorem dX9_owed_24 : decode cX9_owed 24 = .ok (.iload_n 1, 1) := by decide +kernel
theorem dX9_owed_25 : decode cX9_owed 25 = .ok (.iload_n 2, 1) := by decide +kernel
theorem dX9_owed_26 : decode cX9_owed 26 = .ok (.invokevirtual 266, 3) := by decide +kernel
theorem dX9_owed_29 : decode cX9_owed 29 = .ok (.ireturn, 1) := by decide +kernel
theorem dX9_isDay_0 : decode cX9_isDay 0 = .ok (.iload_n 0, 1) := by decide +kernel
theorem dX9_isDay_1 : decode cX9_isDay 1 = .ok (.ifCond .lt 14, 3) := by decide +kernel
theorem dX9_isDay_4 : decode cX9_isDay 4 = .ok (.iload_n 0, 1) := by decide +kernel
theorem dX9_isDay_5 : decode cX9_isDay 5 = .ok (.sipush 399, 3) := by decide +kernel
theorem dX9_isDay_8 : decode cX9_isDay 8 = .ok (.if_icmp .gt 7, 3) := by decide +kernel
theorem dX9_isDay_11 : decode cX9_isDay 11 = .ok (.iconst 1, 1) := by decide +kernel
theorem dX9_isDay_12 : decode cX9_isDay 12 = .ok (.goto 4, 3) := by decide +kernel
theorem dX9_isDay_15 : decode cX9_isDay 15 = .ok (.iconst 0, 1) := by decide +kernel
theorem dX9_isDay_16 : decode cX9_isDay 16 = .ok (.ireturn, 1) := by decide +kernel
theorem dX9_owedOn_0 : decode cX9_owedOn 0 = .ok (.iconst 0, 1) := by decide +kernel
theorem dX9_owedOn_1 : decode cX9_owedOn 1 = .ok (.istore_n 3, 1) := by decide +kernel
theorem dX9_owedOn_2 : decode cX9_owedOn 2 = .ok (.iconst 0, 1) := by decide +kernel
theorem dX9_owedOn_3 : decode cX9_owedOn 3 = .ok (.istore 4, 2) := by decide +kernel
theorem dX9_owedOn_5 : decode cX9_owedOn 5 = .ok (.iload 4, 2) := by decide +kernel
theorem dX9_owedOn_7 : decode cX9_owedOn 7 = .ok (.aload_n 0, 1) := by decide +kernel
theorem dX9_owedOn_8 : decode cX9_owedOn 8 = .ok (.getfield 66, 3) := by decide +kernel
theorem dX9_owedOn_11 : decode cX9_owedOn 11 = .ok (.if_icmp .ge 87, 3) := by decide +kernel
theorem dX9_owedOn_14 : decode cX9_owedOn 14 = .ok (.aload_n 0, 1) := by decide +kernel
theorem dX9_owedOn_15 : decode cX9_owedOn 15 = .ok (.iload 4, 2) := by decide +kernel
theorem dX9_owedOn_17 : decode cX9_owedOn 17 = .ok (.invokevirtual 186, 3) := by decide +kernel
theorem dX9_owedOn_20 : decode cX9_owedOn 20 = .ok (.astore 5, 2) := by decide +kernel
theorem dX9_owedOn_22 : decode cX9_owedOn 22 = .ok (.iload_n 1, 1) := by decide +kernel
theorem dX9_owedOn_23 : decode cX9_owedOn 23 = .ok (.iconst (-1), 1) := by decide +kernel
theorem dX9_owedOn_24 : decode cX9_owedOn 24 = .ok (.if_icmp .eq 9, 3) := by decide +kernel
theorem dX9_owedOn_27 : decode cX9_owedOn 27 = .ok (.iload_n 1, 1) := by decide +kernel
theorem dX9_owedOn_28 : decode cX9_owedOn 28 = .ok (.iload 4, 2) := by decide +kernel
theorem dX9_owedOn_30 : decode cX9_owedOn 30 = .ok (.if_icmp .ne 62, 3) := by decide +kernel
theorem dX9_owedOn_33 : decode cX9_owedOn 33 = .ok (.aload 5, 2) := by decide +kernel
theorem dX9_owedOn_35 : decode cX9_owedOn 35 = .ok (.ifnull 57, 3) := by decide +kernel
theorem dX9_owedOn_38 : decode cX9_owedOn 38 = .ok (.aload 5, 2) := by decide +kernel
theorem dX9_owedOn_40 : decode cX9_owedOn 40 = .ok (.invokevirtual 269, 3) := by decide +kernel
theorem dX9_owedOn_43 : decode cX9_owedOn 43 = .ok (.ifCond .eq 49, 3) := by decide +kernel
theorem dX9_owedOn_46 : decode cX9_owedOn 46 = .ok (.aload_n 0, 1) := by decide +kernel
theorem dX9_owedOn_47 : decode cX9_owedOn 47 = .ok (.getfield 55, 3) := by decide +kernel
theorem dX9_owedOn_50 : decode cX9_owedOn 50 = .ok (.iload 4, 2) := by decide +kernel
theorem dX9_owedOn_52 : decode cX9_owedOn 52 = .ok (.iload_n 2, 1) := by decide +kernel
theorem dX9_owedOn_53 : decode cX9_owedOn 53 = .ok (.invokevirtual 273, 3) := by decide +kernel
theorem dX9_owedOn_56 : decode cX9_owedOn 56 = .ok (.ifCond .eq 36, 3) := by decide +kernel
theorem dX9_owedOn_59 : decode cX9_owedOn 59 = .ok (.aload_n 0, 1) := by decide +kernel
theorem dX9_owedOn_60 : decode cX9_owedOn 60 = .ok (.aload 5, 2) := by decide +kernel
theorem dX9_owedOn_62 : decode cX9_owedOn 62 = .ok (.invokevirtual 224, 3) := by decide +kernel
theorem dX9_owedOn_65 : decode cX9_owedOn 65 = .ok (.iload_n 3, 1) := by decide +kernel
theorem dX9_owedOn_66 : decode cX9_owedOn 66 = .ok (.aload 5, 2) := by decide +kernel
theorem dX9_owedOn_68 : decode cX9_owedOn 68 = .ok (.getfield 231, 3) := by decide +kernel
theorem dX9_owedOn_71 : decode cX9_owedOn 71 = .ok (.iconst 1, 1) := by decide +kernel
theorem dX9_owedOn_72 : decode cX9_owedOn 72 = .ok (.iand, 1) := by decide +kernel
theorem dX9_owedOn_73 : decode cX9_owedOn 73 = .ok (.ifCond .eq 16, 3) := by decide +kernel
theorem dX9_owedOn_76 : decode cX9_owedOn 76 = .ok (.aload_n 0, 1) := by decide +kernel
theorem dX9_owedOn_77 : decode cX9_owedOn 77 = .ok (.getfield 55, 3) := by decide +kernel
theorem dX9_owedOn_80 : decode cX9_owedOn 80 = .ok (.iload 4, 2) := by decide +kernel
theorem dX9_owedOn_82 : decode cX9_owedOn 82 = .ok (.iload_n 2, 1) := by decide +kernel
theorem dX9_owedOn_83 : decode cX9_owedOn 83 = .ok (.invokevirtual 277, 3) := by decide +kernel
theorem dX9_owedOn_86 : decode cX9_owedOn 86 = .ok (.goto 4, 3) := by decide +kernel
theorem dX9_owedOn_89 : decode cX9_owedOn 89 = .ok (.iconst 0, 1) := by decide +kernel
theorem dX9_owedOn_90 : decode cX9_owedOn 90 = .ok (.iadd, 1) := by decide +kernel
theorem dX9_owedOn_91 : decode cX9_owedOn 91 = .ok (.istore_n 3, 1) := by decide +kernel
theorem dX9_owedOn_92 : decode cX9_owedOn 92 = .ok (.iinc 4 1, 3) := by decide +kernel
theorem dX9_owedOn_95 : decode cX9_owedOn 95 = .ok (.goto (-90), 3) := by decide +kernel
theorem dX9_owedOn_98 : decode cX9_owedOn 98 = .ok (.iload_n 3, 1) := by decide +kernel
theorem dX9_owedOn_99 : decode cX9_owedOn 99 = .ok (.ireturn, 1) := by decide +kernel
theorem dX9_judgment_0 : decode cX9_judgment 0 = .ok (.iload_n 1, 1) := by decide +kernel
theorem dX9_judgment_1 : decode cX9_judgment 1 = .ok (.ifCond .lt 21, 3) := by decide +kernel
theorem dX9_judgment_4 : decode cX9_judgment 4 = .ok (.iload_n 1, 1) := by decide +kernel
theorem dX9_judgment_5 : decode cX9_judgment 5 = .ok (.ldc_w 280, 3) := by decide +kernel
theorem dX9_judgment_8 : decode cX9_judgment 8 = .ok (.if_icmp .gt 14, 3) := by decide +kernel
theorem dX9_judgment_11 : decode cX9_judgment 11 = .ok (.iload_n 2, 1) := by decide +kernel
theorem dX9_judgment_12 : decode cX9_judgment 12 = .ok (.ifCond .lt 10, 3) := by decide +kernel
theorem dX9_judgment_15 : decode cX9_judgment 15 = .ok (.iload_n 2, 1) := by decide +kernel
theorem dX9_judgment_16 : decode cX9_judgment 16 = .ok (.ldc_w 280, 3) := by decide +kernel
theorem dX9_judgment_19 : decode cX9_judgment 19 = .ok (.if_icmp .le 6, 3) := by decide +kernel
theorem dX9_judgment_22 : decode cX9_judgment 22 = .ok (.bipush (-2), 2) := by decide +kernel
theorem dX9_judgment_24 : decode cX9_judgment 24 = .ok (.ireturn, 1) := by decide +kernel
theorem dX9_judgment_25 : decode cX9_judgment 25 = .ok (.aload_n 0, 1) := by decide +kernel
theorem dX9_judgment_26 : decode cX9_judgment 26 = .ok (.getfield 62, 3) := by decide +kernel
theorem dX9_judgment_29 : decode cX9_judgment 29 = .ok (.iload_n 1, 1) := by decide +kernel
theorem dX9_judgment_30 : decode cX9_judgment 30 = .ok (.iload_n 2, 1) := by decide +kernel
theorem dX9_judgment_31 : decode cX9_judgment 31 = .ok (.invokevirtual 281, 3) := by decide +kernel
theorem dX9_judgment_34 : decode cX9_judgment 34 = .ok (.ireturn, 1) := by decide +kernel
theorem dX9_ground_0 : decode cX9_ground 0 = .ok (.iload_n 1, 1) := by decide +kernel
theorem dX9_ground_1 : decode cX9_ground 1 = .ok (.ifCond .lt 9, 3) := by decide +kernel
theorem dX9_ground_4 : decode cX9_ground 4 = .ok (.iload_n 1, 1) := by decide +kernel
theorem dX9_ground_5 : decode cX9_ground 5 = .ok (.bipush 8, 2) := by decide +kernel
theorem dX9_ground_7 : decode cX9_ground 7 = .ok (.if_icmp .lt 6, 3) := by decide +kernel
theorem dX9_ground_10 : decode cX9_ground 10 = .ok (.bipush (-2), 2) := by decide +kernel
theorem dX9_ground_12 : decode cX9_ground 12 = .ok (.ireturn, 1) := by decide +kernel
theorem dX9_ground_13 : decode cX9_ground 13 = .ok (.iload_n 2, 1) := by decide +kernel
theorem dX9_ground_14 : decode cX9_ground 14 = .ok (.ifCond .eq 17, 3) := by decide +kernel
theorem dX9_ground_17 : decode cX9_ground 17 = .ok (.aload_n 0, 1) := by decide +kernel
theorem dX9_ground_18 : decode cX9_ground 18 = .ok (.getfield 62, 3) := by decide +kernel
theorem dX9_ground_21 : decode cX9_ground 21 = .ok (.getfield 283, 3) := by decide +kernel
theorem dX9_ground_24 : decode cX9_ground 24 = .ok (.iconst 1, 1) := by decide +kernel
theorem dX9_ground_25 : decode cX9_ground 25 = .ok (.iload_n 1, 1) := by decide +kernel
theorem dX9_ground_26 : decode cX9_ground 26 = .ok (.ishl, 1) := by decide +kernel
theorem dX9_ground_27 : decode cX9_ground 27 = .ok (.ior, 1) := by decide +kernel
theorem dX9_ground_28 : decode cX9_ground 28 = .ok (.goto 16, 3) := by decide +kernel
theorem dX9_ground_31 : decode cX9_ground 31 = .ok (.aload_n 0, 1) := by decide +kernel
theorem dX9_ground_32 : decode cX9_ground 32 = .ok (.getfield 62, 3) := by decide +kernel
theorem dX9_ground_35 : decode cX9_ground 35 = .ok (.getfield 283, 3) := by decide +kernel
theorem dX9_ground_38 : decode cX9_ground 38 = .ok (.iconst 1, 1) := by decide +kernel
theorem dX9_ground_39 : decode cX9_ground 39 = .ok (.iload_n 1, 1) := by decide +kernel
theorem dX9_ground_40 : decode cX9_ground 40 = .ok (.ishl, 1) := by decide +kernel
theorem dX9_ground_41 : decode cX9_ground 41 = .ok (.iconst (-1), 1) := by decide +kernel
theorem dX9_ground_42 : decode cX9_ground 42 = .ok (.ixor, 1) := by decide +kernel
theorem dX9_ground_43 : decode cX9_ground 43 = .ok (.iand, 1) := by decide +kernel
theorem dX9_ground_44 : decode cX9_ground 44 = .ok (.istore_n 3, 1) := by decide +kernel
theorem dX9_ground_45 : decode cX9_ground 45 = .ok (.iload_n 3, 1) := by decide +kernel
theorem dX9_ground_46 : decode cX9_ground 46 = .ok (.aload_n 0, 1) := by decide +kernel
theorem dX9_ground_47 : decode cX9_ground 47 = .ok (.getfield 62, 3) := by decide +kernel
theorem dX9_ground_50 : decode cX9_ground 50 = .ok (.getfield 283, 3) := by decide +kernel
theorem dX9_ground_53 : decode cX9_ground 53 = .ok (.if_icmp .ne 5, 3) := by decide +kernel
theorem dX9_ground_56 : decode cX9_ground 56 = .ok (.iconst 0, 1) := by decide +kernel
theorem dX9_ground_57 : decode cX9_ground 57 = .ok (.ireturn, 1) := by decide +kernel
theorem dX9_ground_58 : decode cX9_ground 58 = .ok (.aload_n 0, 1) := by decide +kernel
theorem dX9_ground_59 : decode cX9_ground 59 = .ok (.getfield 62, 3) := by decide +kernel
theorem dX9_ground_62 : decode cX9_ground 62 = .ok (.iload_n 3, 1) := by decide +kernel
theorem dX9_ground_63 : decode cX9_ground 63 = .ok (.putfield 283, 3) := by decide +kernel
theorem dX9_ground_66 : decode cX9_ground 66 = .ok (.iconst 1, 1) := by decide +kernel
theorem dX9_ground_67 : decode cX9_ground 67 = .ok (.ireturn, 1) := by decide +kernel
theorem dX9_standing_0 : decode cX9_standing 0 = .ok (.aload_n 0, 1) := by decide +kernel
theorem dX9_standing_1 : decode cX9_standing 1 = .ok (.getfield 62, 3) := by decide +kernel
theorem dX9_standing_4 : decode cX9_standing 4 = .ok (.aload_n 0, 1) := by decide +kernel
theorem dX9_standing_5 : decode cX9_standing 5 = .ok (.getfield 62, 3) := by decide +kernel
theorem dX9_standing_8 : decode cX9_standing 8 = .ok (.getfield 283, 3) := by decide +kernel
theorem dX9_standing_11 : decode cX9_standing 11 = .ok (.invokevirtual 286, 3) := by decide +kernel
theorem dX9_standing_14 : decode cX9_standing 14 = .ok (.ireturn, 1) := by decide +kernel
theorem dX9_falling_0 : decode cX9_falling 0 = .ok (.iload_n 1, 1) := by decide +kernel
theorem dX9_falling_1 : decode cX9_falling 1 = .ok (.ifCond .lt 9, 3) := by decide +kernel
theorem dX9_falling_4 : decode cX9_falling 4 = .ok (.iload_n 1, 1) := by decide +kernel
theorem dX9_falling_5 : decode cX9_falling 5 = .ok (.bipush 8, 2) := by decide +kernel
theorem dX9_falling_7 : decode cX9_falling 7 = .ok (.if_icmp .lt 6, 3) := by decide +kernel
theorem dX9_falling_10 : decode cX9_falling 10 = .ok (.bipush (-2), 2) := by decide +kernel
theorem dX9_falling_12 : decode cX9_falling 12 = .ok (.ireturn, 1) := by decide +kernel
theorem dX9_falling_13 : decode cX9_falling 13 = .ok (.aload_n 0, 1) := by decide +kernel
theorem dX9_falling_14 : decode cX9_falling 14 = .ok (.getfield 62, 3) := by decide +kernel
theorem dX9_falling_17 : decode cX9_falling 17 = .ok (.aload_n 0, 1) := by decide +kernel
theorem dX9_falling_18 : decode cX9_falling 18 = .ok (.getfield 62, 3) := by decide +kernel
theorem dX9_falling_21 : decode cX9_falling 21 = .ok (.getfield 283, 3) := by decide +kernel
theorem dX9_falling_24 : decode cX9_falling 24 = .ok (.invokevirtual 286, 3) := by decide +kernel
theorem dX9_falling_27 : decode cX9_falling 27 = .ok (.aload_n 0, 1) := by decide +kernel
theorem dX9_falling_28 : decode cX9_falling 28 = .ok (.getfield 62, 3) := by decide +kernel
theorem dX9_falling_31 : decode cX9_falling 31 = .ok (.aload_n 0, 1) := by decide +kernel
theorem dX9_falling_32 : decode cX9_falling 32 = .ok (.getfield 62, 3) := by decide +kernel
theorem dX9_falling_35 : decode cX9_falling 35 = .ok (.getfield 283, 3) := by decide +kernel
theorem dX9_falling_38 : decode cX9_falling 38 = .ok (.iconst 1, 1) := by decide +kernel
theorem dX9_falling_39 : decode cX9_falling 39 = .ok (.iload_n 1, 1) := by decide +kernel
theorem dX9_falling_40 : decode cX9_falling 40 = .ok (.ishl, 1) := by decide +kernel
theorem dX9_falling_41 : decode cX9_falling 41 = .ok (.iconst (-1), 1) := by decide +kernel
theorem dX9_falling_42 : decode cX9_falling 42 = .ok (.ixor, 1) := by decide +kernel
theorem dX9_falling_43 : decode cX9_falling 43 = .ok (.iand, 1) := by decide +kernel
theorem dX9_falling_44 : decode cX9_falling 44 = .ok (.invokevirtual 286, 3) := by decide +kernel
theorem dX9_falling_47 : decode cX9_falling 47 = .ok (.iconst (-1), 1) := by decide +kernel
theorem dX9_falling_48 : decode cX9_falling 48 = .ok (.ixor, 1) := by decide +kernel
theorem dX9_falling_49 : decode cX9_falling 49 = .ok (.iand, 1) := by decide +kernel
theorem dX9_falling_50 : decode cX9_falling 50 = .ok (.ireturn, 1) := by decide +kernel
theorem dX9_order_0 : decode cX9_order 0 = .ok (.iload_n 1, 1) := by decide +kernel
theorem dX9_order_1 : decode cX9_order 1 = .ok (.invokestatic 147, 3) := by decide +kernel
theorem dX9_order_4 : decode cX9_order 4 = .ok (.istore_n 3, 1) := by decide +kernel
theorem dX9_order_5 : decode cX9_order 5 = .ok (.iload_n 1, 1) := by decide +kernel
theorem dX9_order_6 : decode cX9_order 6 = .ok (.ifCond .lt 29, 3) := by decide +kernel
theorem dX9_order_9 : decode cX9_order 9 = .ok (.iload_n 1, 1) := by decide +kernel
theorem dX9_order_10 : decode cX9_order 10 = .ok (.iconst 1, 1) := by decide +kernel
theorem dX9_order_11 : decode cX9_order 11 = .ok (.aload_n 0, 1) := by decide +kernel
theorem dX9_order_12 : decode cX9_order 12 = .ok (.getfield 66, 3) := by decide +kernel
theorem dX9_order_15 : decode cX9_order 15 = .ok (.ishl, 1) := by decide +kernel
theorem dX9_order_16 : decode cX9_order 16 = .ok (.if_icmp .ge 19, 3) := by decide +kernel
theorem dX9_order_19 : decode cX9_order 19 = .ok (.iload_n 3, 1) := by decide +kernel
theorem dX9_order_20 : decode cX9_order 20 = .ok (.bipush 8, 2) := by decide +kernel
theorem dX9_order_22 : decode cX9_order 22 = .ok (.if_icmp .gt 13, 3) := by decide +kernel
theorem dX9_order_25 : decode cX9_order 25 = .ok (.iload_n 2, 1) := by decide +kernel
theorem dX9_order_26 : decode cX9_order 26 = .ok (.iconst (-1), 1) := by decide +kernel
theorem dX9_order_27 : decode cX9_order 27 = .ok (.if_icmp .lt 8, 3) := by decide +kernel
theorem dX9_order_30 : decode cX9_order 30 = .ok (.iload_n 2, 1) := by decide +kernel
theorem dX9_order_31 : decode cX9_order 31 = .ok (.iload_n 3, 1) := by decide +kernel
theorem dX9_order_32 : decode cX9_order 32 = .ok (.if_icmp .lt 6, 3) := by decide +kernel
theorem dX9_order_35 : decode cX9_order 35 = .ok (.bipush (-2), 2) := by decide +kernel
theorem dX9_order_37 : decode cX9_order 37 = .ok (.ireturn, 1) := by decide +kernel
theorem dX9_order_38 : decode cX9_order 38 = .ok (.iconst 0, 1) := by decide +kernel
theorem dX9_order_39 : decode cX9_order 39 = .ok (.istore 4, 2) := by decide +kernel
theorem dX9_order_41 : decode cX9_order 41 = .ok (.iconst 0, 1) := by decide +kernel
theorem dX9_order_42 : decode cX9_order 42 = .ok (.istore 5, 2) := by decide +kernel
theorem dX9_order_44 : decode cX9_order 44 = .ok (.iload 5, 2) := by decide +kernel
theorem dX9_order_46 : decode cX9_order 46 = .ok (.aload_n 0, 1) := by decide +kernel
theorem dX9_order_47 : decode cX9_order 47 = .ok (.getfield 66, 3) := by decide +kernel
theorem dX9_order_50 : decode cX9_order 50 = .ok (.if_icmp .ge 30, 3) := by decide +kernel
theorem dX9_order_53 : decode cX9_order 53 = .ok (.iload_n 1, 1) := by decide +kernel
theorem dX9_order_54 : decode cX9_order 54 = .ok (.iload 5, 2) := by decide +kernel
theorem dX9_order_56 : decode cX9_order 56 = .ok (.ishr, 1) := by decide +kernel
theorem dX9_order_57 : decode cX9_order 57 = .ok (.iconst 1, 1) := by decide +kernel
theorem dX9_order_58 : decode cX9_order 58 = .ok (.iand, 1) := by decide +kernel
theorem dX9_order_59 : decode cX9_order 59 = .ok (.iconst 1, 1) := by decide +kernel
theorem dX9_order_60 : decode cX9_order 60 = .ok (.if_icmp .ne 14, 3) := by decide +kernel
theorem dX9_order_63 : decode cX9_order 63 = .ok (.aload_n 0, 1) := by decide +kernel
theorem dX9_order_64 : decode cX9_order 64 = .ok (.iload 5, 2) := by decide +kernel
theorem dX9_order_66 : decode cX9_order 66 = .ok (.iload 4, 2) := by decide +kernel
theorem dX9_order_68 : decode cX9_order 68 = .ok (.invokevirtual 289, 3) := by decide +kernel
theorem dX9_order_71 : decode cX9_order 71 = .ok (.iinc 4 1, 3) := by decide +kernel
theorem dX9_order_74 : decode cX9_order 74 = .ok (.iinc 5 1, 3) := by decide +kernel
theorem dX9_order_77 : decode cX9_order 77 = .ok (.goto (-33), 3) := by decide +kernel
theorem dX9_order_80 : decode cX9_order 80 = .ok (.iload_n 2, 1) := by decide +kernel
theorem dX9_order_81 : decode cX9_order 81 = .ok (.iconst (-1), 1) := by decide +kernel
theorem dX9_order_82 : decode cX9_order 82 = .ok (.if_icmp .ne 12, 3) := by decide +kernel
theorem dX9_order_85 : decode cX9_order 85 = .ok (.aload_n 0, 1) := by decide +kernel
theorem dX9_order_86 : decode cX9_order 86 = .ok (.iload 4, 2) := by decide +kernel
theorem dX9_order_88 : decode cX9_order 88 = .ok (.invokevirtual 293, 3) := by decide +kernel
theorem dX9_order_91 : decode cX9_order 91 = .ok (.goto 9, 3) := by decide +kernel
theorem dX9_order_94 : decode cX9_order 94 = .ok (.aload_n 0, 1) := by decide +kernel
theorem dX9_order_95 : decode cX9_order 95 = .ok (.getfield 27, 3) := by decide +kernel
theorem dX9_order_98 : decode cX9_order 98 = .ok (.iload_n 2, 1) := by decide +kernel
theorem dX9_order_99 : decode cX9_order 99 = .ok (.iaload, 1) := by decide +kernel
theorem dX9_order_100 : decode cX9_order 100 = .ok (.ireturn, 1) := by decide +kernel
theorem dX9_enqueue_0 : decode cX9_enqueue 0 = .ok (.iload_n 2, 1) := by decide +kernel
theorem dX9_enqueue_1 : decode cX9_enqueue 1 = .ok (.ifCond .lt 9, 3) := by decide +kernel
theorem dX9_enqueue_4 : decode cX9_enqueue 4 = .ok (.iload_n 2, 1) := by decide +kernel
theorem dX9_enqueue_5 : decode cX9_enqueue 5 = .ok (.bipush 8, 2) := by decide +kernel
theorem dX9_enqueue_7 : decode cX9_enqueue 7 = .ok (.if_icmp .lt 4, 3) := by decide +kernel
theorem dX9_enqueue_10 : decode cX9_enqueue 10 = .ok (.return_, 1) := by decide +kernel
theorem dX9_enqueue_11 : decode cX9_enqueue 11 = .ok (.iload_n 2, 1) := by decide +kernel
theorem dX9_enqueue_12 : decode cX9_enqueue 12 = .ok (.istore_n 3, 1) := by decide +kernel
theorem dX9_enqueue_13 : decode cX9_enqueue 13 = .ok (.iload_n 3, 1) := by decide +kernel
theorem dX9_enqueue_14 : decode cX9_enqueue 14 = .ok (.ifCond .le 39, 3) := by decide +kernel
theorem dX9_enqueue_17 : decode cX9_enqueue 17 = .ok (.aload_n 0, 1) := by decide +kernel
theorem dX9_enqueue_18 : decode cX9_enqueue 18 = .ok (.iload_n 1, 1) := by decide +kernel
theorem dX9_enqueue_19 : decode cX9_enqueue 19 = .ok (.aload_n 0, 1) := by decide +kernel
theorem dX9_enqueue_20 : decode cX9_enqueue 20 = .ok (.getfield 27, 3) := by decide +kernel
theorem dX9_enqueue_23 : decode cX9_enqueue 23 = .ok (.iload_n 3, 1) := by decide +kernel
theorem dX9_enqueue_24 : decode cX9_enqueue 24 = .ok (.iconst 1, 1) := by decide +kernel
theorem dX9_enqueue_25 : decode cX9_enqueue 25 = .ok (.isub, 1) := by decide +kernel
theorem dX9_enqueue_26 : decode cX9_enqueue 26 = .ok (.iaload, 1) := by decide +kernel
theorem dX9_enqueue_27 : decode cX9_enqueue 27 = .ok (.invokevirtual 296, 3) := by decide +kernel
theorem dX9_enqueue_30 : decode cX9_enqueue 30 = .ok (.ifCond .eq 23, 3) := by decide +kernel
theorem dX9_enqueue_33 : decode cX9_enqueue 33 = .ok (.aload_n 0, 1) := by decide +kernel
theorem dX9_enqueue_34 : decode cX9_enqueue 34 = .ok (.getfield 27, 3) := by decide +kernel
theorem dX9_enqueue_37 : decode cX9_enqueue 37 = .ok (.iload_n 3, 1) := by decide +kernel
theorem dX9_enqueue_38 : decode cX9_enqueue 38 = .ok (.aload_n 0, 1) := by decide +kernel
theorem dX9_enqueue_39 : decode cX9_enqueue 39 = .ok (.getfield 27, 3) := by decide +kernel
theorem dX9_enqueue_42 : decode cX9_enqueue 42 = .ok (.iload_n 3, 1) := by decide +kernel
theorem dX9_enqueue_43 : decode cX9_enqueue 43 = .ok (.iconst 1, 1) := by decide +kernel
theorem dX9_enqueue_44 : decode cX9_enqueue 44 = .ok (.isub, 1) := by decide +kernel
theorem dX9_enqueue_45 : decode cX9_enqueue 45 = .ok (.iaload, 1) := by decide +kernel
theorem dX9_enqueue_46 : decode cX9_enqueue 46 = .ok (.iastore, 1) := by decide +kernel
theorem dX9_enqueue_47 : decode cX9_enqueue 47 = .ok (.iinc 3 (-1), 3) := by decide +kernel
theorem dX9_enqueue_50 : decode cX9_enqueue 50 = .ok (.goto (-37), 3) := by decide +kernel
theorem dX9_enqueue_53 : decode cX9_enqueue 53 = .ok (.aload_n 0, 1) := by decide +kernel
theorem dX9_enqueue_54 : decode cX9_enqueue 54 = .ok (.getfield 27, 3) := by decide +kernel
theorem dX9_enqueue_57 : decode cX9_enqueue 57 = .ok (.iload_n 3, 1) := by decide +kernel
theorem dX9_enqueue_58 : decode cX9_enqueue 58 = .ok (.iload_n 1, 1) := by decide +kernel
theorem dX9_enqueue_59 : decode cX9_enqueue 59 = .ok (.iastore, 1) := by decide +kernel
theorem dX9_enqueue_60 : decode cX9_enqueue 60 = .ok (.return_, 1) := by decide +kernel
theorem dX9_isBefore_0 : decode cX9_isBefore 0 = .ok (.aload_n 0, 1) := by decide +kernel
theorem dX9_isBefore_1 : decode cX9_isBefore 1 = .ok (.iload_n 1, 1) := by decide +kernel
theorem dX9_isBefore_2 : decode cX9_isBefore 2 = .ok (.invokevirtual 186, 3) := by decide +kernel
theorem dX9_isBefore_5 : decode cX9_isBefore 5 = .ok (.astore_n 3, 1) := by decide +kernel
theorem dX9_isBefore_6 : decode cX9_isBefore 6 = .ok (.aload_n 0, 1) := by decide +kernel
theorem dX9_isBefore_7 : decode cX9_isBefore 7 = .ok (.iload_n 2, 1) := by decide +kernel
theorem dX9_isBefore_8 : decode cX9_isBefore 8 = .ok (.invokevirtual 186, 3) := by decide +kernel
theorem dX9_isBefore_11 : decode cX9_isBefore 11 = .ok (.astore 4, 2) := by decide +kernel
theorem dX9_isBefore_13 : decode cX9_isBefore 13 = .ok (.aload_n 3, 1) := by decide +kernel
theorem dX9_isBefore_14 : decode cX9_isBefore 14 = .ok (.ifnull 35, 3) := by decide +kernel
theorem dX9_isBefore_17 : decode cX9_isBefore 17 = .ok (.aload 4, 2) := by decide +kernel
theorem dX9_isBefore_19 : decode cX9_isBefore 19 = .ok (.ifnull 30, 3) := by decide +kernel
theorem dX9_isBefore_22 : decode cX9_isBefore 22 = .ok (.aload_n 3, 1) := by decide +kernel
theorem dX9_isBefore_23 : decode cX9_isBefore 23 = .ok (.getfield 299, 3) := by decide +kernel
theorem dX9_isBefore_26 : decode cX9_isBefore 26 = .ok (.aload 4, 2) := by decide +kernel
theorem dX9_isBefore_28 : decode cX9_isBefore 28 = .ok (.getfield 302, 3) := by decide +kernel
theorem dX9_isBefore_31 : decode cX9_isBefore 31 = .ok (.imul, 1) := by decide +kernel
theorem dX9_isBefore_32 : decode cX9_isBefore 32 = .ok (.aload 4, 2) := by decide +kernel
theorem dX9_isBefore_34 : decode cX9_isBefore 34 = .ok (.getfield 299, 3) := by decide +kernel
theorem dX9_isBefore_37 : decode cX9_isBefore 37 = .ok (.aload_n 3, 1) := by decide +kernel
theorem dX9_isBefore_38 : decode cX9_isBefore 38 = .ok (.getfield 302, 3) := by decide +kernel
theorem dX9_isBefore_41 : decode cX9_isBefore 41 = .ok (.imul, 1) := by decide +kernel
theorem dX9_isBefore_42 : decode cX9_isBefore 42 = .ok (.if_icmp .ge 7, 3) := by decide +kernel
theorem dX9_isBefore_45 : decode cX9_isBefore 45 = .ok (.iconst 1, 1) := by decide +kernel
theorem dX9_isBefore_46 : decode cX9_isBefore 46 = .ok (.goto 4, 3) := by decide +kernel
theorem dX9_isBefore_49 : decode cX9_isBefore 49 = .ok (.iconst 0, 1) := by decide +kernel
theorem dX9_isBefore_50 : decode cX9_isBefore 50 = .ok (.ireturn, 1) := by decide +kernel
theorem dX9_costOfQueue_0 : decode cX9_costOfQueue 0 = .ok (.iconst 0, 1) := by decide +kernel
theorem dX9_costOfQueue_1 : decode cX9_costOfQueue 1 = .ok (.istore_n 2, 1) := by decide +kernel
theorem dX9_costOfQueue_2 : decode cX9_costOfQueue 2 = .ok (.iconst 0, 1) := by decide +kernel
theorem dX9_costOfQueue_3 : decode cX9_costOfQueue 3 = .ok (.istore_n 3, 1) := by decide +kernel
theorem dX9_costOfQueue_4 : decode cX9_costOfQueue 4 = .ok (.iconst 0, 1) := by decide +kernel
theorem dX9_costOfQueue_5 : decode cX9_costOfQueue 5 = .ok (.istore 4, 2) := by decide +kernel
theorem dX9_costOfQueue_7 : decode cX9_costOfQueue 7 = .ok (.iload 4, 2) := by decide +kernel
theorem dX9_costOfQueue_9 : decode cX9_costOfQueue 9 = .ok (.iload_n 1, 1) := by decide +kernel
theorem dX9_costOfQueue_10 : decode cX9_costOfQueue 10 = .ok (.if_icmp .ge 52, 3) := by decide +kernel
theorem dX9_costOfQueue_13 : decode cX9_costOfQueue 13 = .ok (.iload 4, 2) := by decide +kernel
theorem dX9_costOfQueue_15 : decode cX9_costOfQueue 15 = .ok (.bipush 8, 2) := by decide +kernel
theorem dX9_costOfQueue_17 : decode cX9_costOfQueue 17 = .ok (.if_icmp .ge 45, 3) := by decide +kernel
theorem dX9_costOfQueue_20 : decode cX9_costOfQueue 20 = .ok (.aload_n 0, 1) := by decide +kernel
theorem dX9_costOfQueue_21 : decode cX9_costOfQueue 21 = .ok (.aload_n 0, 1) := by decide +kernel
theorem dX9_costOfQueue_22 : decode cX9_costOfQueue 22 = .ok (.getfield 27, 3) := by decide +kernel
theorem dX9_costOfQueue_25 : decode cX9_costOfQueue 25 = .ok (.iload 4, 2) := by decide +kernel
theorem dX9_costOfQueue_27 : decode cX9_costOfQueue 27 = .ok (.iaload, 1) := by decide +kernel
theorem dX9_costOfQueue_28 : decode cX9_costOfQueue 28 = .ok (.invokevirtual 186, 3) := by decide +kernel
theorem dX9_costOfQueue_31 : decode cX9_costOfQueue 31 = .ok (.astore 5, 2) := by decide +kernel
theorem dX9_costOfQueue_33 : decode cX9_costOfQueue 33 = .ok (.aload 5, 2) := by decide +kernel
theorem dX9_costOfQueue_35 : decode cX9_costOfQueue 35 = .ok (.ifnull 21, 3) := by decide +kernel
theorem dX9_costOfQueue_38 : decode cX9_costOfQueue 38 = .ok (.iload_n 3, 1) := by decide +kernel
theorem dX9_costOfQueue_39 : decode cX9_costOfQueue 39 = .ok (.aload 5, 2) := by decide +kernel
theorem dX9_costOfQueue_41 : decode cX9_costOfQueue 41 = .ok (.getfield 299, 3) := by decide +kernel
theorem dX9_costOfQueue_44 : decode cX9_costOfQueue 44 = .ok (.iadd, 1) := by decide +kernel
theorem dX9_costOfQueue_45 : decode cX9_costOfQueue 45 = .ok (.istore_n 3, 1) := by decide +kernel
theorem dX9_costOfQueue_46 : decode cX9_costOfQueue 46 = .ok (.iload_n 2, 1) := by decide +kernel
theorem dX9_costOfQueue_47 : decode cX9_costOfQueue 47 = .ok (.iload_n 3, 1) := by decide +kernel
theorem dX9_costOfQueue_48 : decode cX9_costOfQueue 48 = .ok (.aload 5, 2) := by decide +kernel
theorem dX9_costOfQueue_50 : decode cX9_costOfQueue 50 = .ok (.getfield 302, 3) := by decide +kernel
theorem dX9_costOfQueue_53 : decode cX9_costOfQueue 53 = .ok (.imul, 1) := by decide +kernel
theorem dX9_costOfQueue_54 : decode cX9_costOfQueue 54 = .ok (.iadd, 1) := by decide +kernel
theorem dX9_costOfQueue_55 : decode cX9_costOfQueue 55 = .ok (.istore_n 2, 1) := by decide +kernel
theorem dX9_costOfQueue_56 : decode cX9_costOfQueue 56 = .ok (.iinc 4 1, 3) := by decide +kernel
theorem dX9_costOfQueue_59 : decode cX9_costOfQueue 59 = .ok (.goto (-52), 3) := by decide +kernel
theorem dX9_costOfQueue_62 : decode cX9_costOfQueue 62 = .ok (.iload_n 2, 1) := by decide +kernel
theorem dX9_costOfQueue_63 : decode cX9_costOfQueue 63 = .ok (.ireturn, 1) := by decide +kernel
theorem dX9_sheet_0 : decode cX9_sheet 0 = .ok (.aload_n 0, 1) := by decide +kernel
theorem dX9_sheet_1 : decode cX9_sheet 1 = .ok (.iload_n 1, 1) := by decide +kernel
theorem dX9_sheet_2 : decode cX9_sheet 2 = .ok (.invokevirtual 119, 3) := by decide +kernel
theorem dX9_sheet_5 : decode cX9_sheet 5 = .ok (.astore 4, 2) := by decide +kernel
theorem dX9_sheet_7 : decode cX9_sheet 7 = .ok (.aload 4, 2) := by decide +kernel
theorem dX9_sheet_9 : decode cX9_sheet 9 = .ok (.ifnull 16, 3) := by decide +kernel
theorem dX9_sheet_12 : decode cX9_sheet 12 = .ok (.iload_n 2, 1) := by decide +kernel
theorem dX9_sheet_13 : decode cX9_sheet 13 = .ok (.invokestatic 305, 3) := by decide +kernel
theorem dX9_sheet_16 : decode cX9_sheet 16 = .ok (.ifCond .eq 9, 3) := by decide +kernel
theorem dX9_sheet_19 : decode cX9_sheet 19 = .ok (.iload_n 3, 1) := by decide +kernel
theorem dX9_sheet_20 : decode cX9_sheet 20 = .ok (.bipush 40, 2) := by decide +kernel
theorem dX9_sheet_22 : decode cX9_sheet 22 = .ok (.if_icmp .le 6, 3) := by decide +kernel
theorem dX9_sheet_25 : decode cX9_sheet 25 = .ok (.bipush (-2), 2) := by decide +kernel
theorem dX9_sheet_27 : decode cX9_sheet 27 = .ok (.ireturn, 1) := by decide +kernel
theorem dX9_sheet_28 : decode cX9_sheet 28 = .ok (.iload_n 3, 1) := by decide +kernel
theorem dX9_sheet_29 : decode cX9_sheet 29 = .ok (.ifCond .ge 9, 3) := by decide +kernel
theorem dX9_sheet_32 : decode cX9_sheet 32 = .ok (.aload_n 0, 1) := by decide +kernel
theorem dX9_sheet_33 : decode cX9_sheet 33 = .ok (.iconst 5, 1) := by decide +kernel
theorem dX9_sheet_34 : decode cX9_sheet 34 = .ok (.invokevirtual 190, 3) := by decide +kernel
theorem dX9_sheet_37 : decode cX9_sheet 37 = .ok (.ireturn, 1) := by decide +kernel
theorem dX9_sheet_38 : decode cX9_sheet 38 = .ok (.aload 4, 2) := by decide +kernel
theorem dX9_sheet_40 : decode cX9_sheet 40 = .ok (.iload_n 2, 1) := by decide +kernel
theorem dX9_sheet_41 : decode cX9_sheet 41 = .ok (.iload_n 3, 1) := by decide +kernel
theorem dX9_sheet_42 : decode cX9_sheet 42 = .ok (.invokevirtual 308, 3) := by decide +kernel
theorem dX9_sheet_45 : decode cX9_sheet 45 = .ok (.iload_n 3, 1) := by decide +kernel
theorem dX9_sheet_46 : decode cX9_sheet 46 = .ok (.ireturn, 1) := by decide +kernel
theorem dX9_lose_0 : decode cX9_lose 0 = .ok (.aload_n 0, 1) := by decide +kernel
theorem dX9_lose_1 : decode cX9_lose 1 = .ok (.iload_n 1, 1) := by decide +kernel
theorem dX9_lose_2 : decode cX9_lose 2 = .ok (.invokevirtual 119, 3) := by decide +kernel
theorem dX9_lose_5 : decode cX9_lose 5 = .ok (.astore_n 2, 1) := by decide +kernel
theorem dX9_lose_6 : decode cX9_lose 6 = .ok (.aload_n 2, 1) := by decide +kernel
theorem dX9_lose_7 : decode cX9_lose 7 = .ok (.ifnonnull 6, 3) := by decide +kernel
theorem dX9_lose_10 : decode cX9_lose 10 = .ok (.bipush (-2), 2) := by decide +kernel
theorem dX9_lose_12 : decode cX9_lose 12 = .ok (.ireturn, 1) := by decide +kernel
theorem dX9_lose_13 : decode cX9_lose 13 = .ok (.aload_n 2, 1) := by decide +kernel
theorem dX9_lose_14 : decode cX9_lose 14 = .ok (.getfield 123, 3) := by decide +kernel
theorem dX9_lose_17 : decode cX9_lose 17 = .ok (.ifCond .eq 9, 3) := by decide +kernel
theorem dX9_lose_20 : decode cX9_lose 20 = .ok (.aload_n 0, 1) := by decide +kernel
theorem dX9_lose_21 : decode cX9_lose 21 = .ok (.iconst 1, 1) := by decide +kernel
theorem dX9_lose_22 : decode cX9_lose 22 = .ok (.invokevirtual 190, 3) := by decide +kernel
theorem dX9_lose_25 : decode cX9_lose 25 = .ok (.ireturn, 1) := by decide +kernel
theorem dX9_lose_26 : decode cX9_lose 26 = .ok (.aload_n 2, 1) := by decide +kernel
theorem dX9_lose_27 : decode cX9_lose 27 = .ok (.iconst 1, 1) := by decide +kernel
theorem dX9_lose_28 : decode cX9_lose 28 = .ok (.putfield 123, 3) := by decide +kernel
theorem dX9_lose_31 : decode cX9_lose 31 = .ok (.aload_n 2, 1) := by decide +kernel
theorem dX9_lose_32 : decode cX9_lose 32 = .ok (.getfield 127, 3) := by decide +kernel
theorem dX9_lose_35 : decode cX9_lose 35 = .ok (.ireturn, 1) := by decide +kernel
theorem dX9_put_0 : decode cX9_put 0 = .ok (.aload_n 0, 1) := by decide +kernel
theorem dX9_put_1 : decode cX9_put 1 = .ok (.iload_n 1, 1) := by decide +kernel
theorem dX9_put_2 : decode cX9_put 2 = .ok (.invokevirtual 119, 3) := by decide +kernel
theorem dX9_put_5 : decode cX9_put 5 = .ok (.astore 5, 2) := by decide +kernel
theorem dX9_put_7 : decode cX9_put 7 = .ok (.aload 5, 2) := by decide +kernel
theorem dX9_put_9 : decode cX9_put 9 = .ok (.ifnull 10, 3) := by decide +kernel
theorem dX9_put_12 : decode cX9_put 12 = .ok (.iload_n 2, 1) := by decide +kernel
theorem dX9_put_13 : decode cX9_put 13 = .ok (.invokestatic 305, 3) := by decide +kernel
theorem dX9_put_16 : decode cX9_put 16 = .ok (.ifCond .ne 6, 3) := by decide +kernel
theorem dX9_put_19 : decode cX9_put 19 = .ok (.bipush (-2), 2) := by decide +kernel
theorem dX9_put_21 : decode cX9_put 21 = .ok (.ireturn, 1) := by decide +kernel
theorem dX9_put_22 : decode cX9_put 22 = .ok (.aload 5, 2) := by decide +kernel
theorem dX9_put_24 : decode cX9_put 24 = .ok (.iload_n 2, 1) := by decide +kernel
theorem dX9_put_25 : decode cX9_put 25 = .ok (.iload_n 3, 1) := by decide +kernel
theorem dX9_put_26 : decode cX9_put 26 = .ok (.invokevirtual 311, 3) := by decide +kernel
theorem dX9_put_29 : decode cX9_put 29 = .ok (.istore 6, 2) := by decide +kernel
theorem dX9_put_31 : decode cX9_put 31 = .ok (.iload 6, 2) := by decide +kernel
theorem dX9_put_33 : decode cX9_put 33 = .ok (.ifCond .eq 10, 3) := by decide +kernel
theorem dX9_put_36 : decode cX9_put 36 = .ok (.aload_n 0, 1) := by decide +kernel
theorem dX9_put_37 : decode cX9_put 37 = .ok (.iload 6, 2) := by decide +kernel
theorem dX9_put_39 : decode cX9_put 39 = .ok (.invokevirtual 190, 3) := by decide +kernel
theorem dX9_put_42 : decode cX9_put 42 = .ok (.ireturn, 1) := by decide +kernel
theorem dX9_put_43 : decode cX9_put 43 = .ok (.aload 5, 2) := by decide +kernel
theorem dX9_put_45 : decode cX9_put 45 = .ok (.iload_n 3, 1) := by decide +kernel
theorem dX9_put_46 : decode cX9_put 46 = .ok (.iload 4, 2) := by decide +kernel
theorem dX9_put_48 : decode cX9_put 48 = .ok (.invokevirtual 314, 3) := by decide +kernel
theorem dX9_put_51 : decode cX9_put 51 = .ok (.iconst 1, 1) := by decide +kernel
theorem dX9_put_52 : decode cX9_put 52 = .ok (.ireturn, 1) := by decide +kernel
theorem dX9_get_0 : decode cX9_get 0 = .ok (.aload_n 0, 1) := by decide +kernel
theorem dX9_get_1 : decode cX9_get 1 = .ok (.iload_n 1, 1) := by decide +kernel
theorem dX9_get_2 : decode cX9_get 2 = .ok (.invokevirtual 119, 3) := by decide +kernel
theorem dX9_get_5 : decode cX9_get 5 = .ok (.astore 4, 2) := by decide +kernel
theorem dX9_get_7 : decode cX9_get 7 = .ok (.aload 4, 2) := by decide +kernel
theorem dX9_get_9 : decode cX9_get 9 = .ok (.ifnull 10, 3) := by decide +kernel
theorem dX9_get_12 : decode cX9_get 12 = .ok (.iload_n 2, 1) := by decide +kernel
theorem dX9_get_13 : decode cX9_get 13 = .ok (.invokestatic 305, 3) := by decide +kernel
theorem dX9_get_16 : decode cX9_get 16 = .ok (.ifCond .ne 7, 3) := by decide +kernel
theorem dX9_get_19 : decode cX9_get 19 = .ok (.ldc_w 317, 3) := by decide +kernel
theorem dX9_get_22 : decode cX9_get 22 = .ok (.ireturn, 1) := by decide +kernel
theorem dX9_get_23 : decode cX9_get 23 = .ok (.aload 4, 2) := by decide +kernel
theorem dX9_get_25 : decode cX9_get 25 = .ok (.iload_n 2, 1) := by decide +kernel
theorem dX9_get_26 : decode cX9_get 26 = .ok (.iload_n 3, 1) := by decide +kernel
theorem dX9_get_27 : decode cX9_get 27 = .ok (.invokevirtual 311, 3) := by decide +kernel
theorem dX9_get_30 : decode cX9_get 30 = .ok (.istore 5, 2) := by decide +kernel
theorem dX9_get_32 : decode cX9_get 32 = .ok (.iload 5, 2) := by decide +kernel
theorem dX9_get_34 : decode cX9_get 34 = .ok (.ifCond .eq 13, 3) := by decide +kernel
theorem dX9_get_37 : decode cX9_get 37 = .ok (.aload_n 0, 1) := by decide +kernel
theorem dX9_get_38 : decode cX9_get 38 = .ok (.iload 5, 2) := by decide +kernel
theorem dX9_get_40 : decode cX9_get 40 = .ok (.putfield 70, 3) := by decide +kernel
theorem dX9_get_43 : decode cX9_get 43 = .ok (.ldc_w 317, 3) := by decide +kernel
theorem dX9_get_46 : decode cX9_get 46 = .ok (.ireturn, 1) := by decide +kernel
theorem dX9_get_47 : decode cX9_get 47 = .ok (.aload 4, 2) := by decide +kernel
theorem dX9_get_49 : decode cX9_get 49 = .ok (.getfield 133, 3) := by decide +kernel
theorem dX9_get_52 : decode cX9_get 52 = .ok (.iload_n 3, 1) := by decide +kernel
theorem dX9_get_53 : decode cX9_get 53 = .ok (.iaload, 1) := by decide +kernel
theorem dX9_get_54 : decode cX9_get 54 = .ok (.ireturn, 1) := by decide +kernel
theorem dX9_copy_0 : decode cX9_copy 0 = .ok (.aload_n 0, 1) := by decide +kernel
theorem dX9_copy_1 : decode cX9_copy 1 = .ok (.iload_n 1, 1) := by decide +kernel
theorem dX9_copy_2 : decode cX9_copy 2 = .ok (.invokevirtual 119, 3) := by decide +kernel
theorem dX9_copy_5 : decode cX9_copy 5 = .ok (.astore 6, 2) := by decide +kernel
theorem dX9_copy_7 : decode cX9_copy 7 = .ok (.aload_n 0, 1) := by decide +kernel
theorem dX9_copy_8 : decode cX9_copy 8 = .ok (.iload_n 3, 1) := by decide +kernel
theorem dX9_copy_9 : decode cX9_copy 9 = .ok (.invokevirtual 119, 3) := by decide +kernel
theorem dX9_copy_12 : decode cX9_copy 12 = .ok (.astore 7, 2) := by decide +kernel
theorem dX9_copy_14 : decode cX9_copy 14 = .ok (.aload 6, 2) := by decide +kernel
theorem dX9_copy_16 : decode cX9_copy 16 = .ok (.ifnull 8, 3) := by decide +kernel
theorem dX9_copy_19 : decode cX9_copy 19 = .ok (.aload 7, 2) := by decide +kernel
theorem dX9_copy_21 : decode cX9_copy 21 = .ok (.ifnonnull 6, 3) := by decide +kernel
theorem dX9_copy_24 : decode cX9_copy 24 = .ok (.bipush (-2), 2) := by decide +kernel
theorem dX9_copy_26 : decode cX9_copy 26 = .ok (.ireturn, 1) := by decide +kernel
theorem dX9_copy_27 : decode cX9_copy 27 = .ok (.aload 6, 2) := by decide +kernel
theorem dX9_copy_29 : decode cX9_copy 29 = .ok (.getfield 123, 3) := by decide +kernel
theorem dX9_copy_32 : decode cX9_copy 32 = .ok (.ifCond .ne 11, 3) := by decide +kernel
theorem dX9_copy_35 : decode cX9_copy 35 = .ok (.aload 7, 2) := by decide +kernel
theorem dX9_copy_37 : decode cX9_copy 37 = .ok (.getfield 123, 3) := by decide +kernel
theorem dX9_copy_40 : decode cX9_copy 40 = .ok (.ifCond .eq 9, 3) := by decide +kernel
theorem dX9_copy_43 : decode cX9_copy 43 = .ok (.aload_n 0, 1) := by decide +kernel
theorem dX9_copy_44 : decode cX9_copy 44 = .ok (.iconst 1, 1) := by decide +kernel
theorem dX9_copy_45 : decode cX9_copy 45 = .ok (.invokevirtual 190, 3) := by decide +kernel
theorem dX9_copy_48 : decode cX9_copy 48 = .ok (.ireturn, 1) := by decide +kernel
theorem dX9_copy_49 : decode cX9_copy 49 = .ok (.aload 6, 2) := by decide +kernel
theorem dX9_copy_51 : decode cX9_copy 51 = .ok (.getfield 318, 3) := by decide +kernel
theorem dX9_copy_54 : decode cX9_copy 54 = .ok (.aload 7, 2) := by decide +kernel
theorem dX9_copy_56 : decode cX9_copy 56 = .ok (.getfield 318, 3) := by decide +kernel
theorem dX9_copy_59 : decode cX9_copy 59 = .ok (.if_icmp .eq 9, 3) := by decide +kernel
theorem dX9_copy_62 : decode cX9_copy 62 = .ok (.aload_n 0, 1) := by decide +kernel
theorem dX9_copy_63 : decode cX9_copy 63 = .ok (.iconst 4, 1) := by decide +kernel
theorem dX9_copy_64 : decode cX9_copy 64 = .ok (.invokevirtual 190, 3) := by decide +kernel
theorem dX9_copy_67 : decode cX9_copy 67 = .ok (.ireturn, 1) := by decide +kernel
theorem dX9_copy_68 : decode cX9_copy 68 = .ok (.aload 6, 2) := by decide +kernel
theorem dX9_copy_70 : decode cX9_copy 70 = .ok (.iload_n 2, 1) := by decide +kernel
theorem dX9_copy_71 : decode cX9_copy 71 = .ok (.iload 5, 2) := by decide +kernel
theorem dX9_copy_73 : decode cX9_copy 73 = .ok (.invokevirtual 321, 3) := by decide +kernel
theorem dX9_copy_76 : decode cX9_copy 76 = .ok (.ifCond .eq 15, 3) := by decide +kernel
theorem dX9_copy_79 : decode cX9_copy 79 = .ok (.aload 7, 2) := by decide +kernel
theorem dX9_copy_81 : decode cX9_copy 81 = .ok (.iload 4, 2) := by decide +kernel
theorem dX9_copy_83 : decode cX9_copy 83 = .ok (.iload 5, 2) := by decide +kernel
theorem dX9_copy_85 : decode cX9_copy 85 = .ok (.invokevirtual 321, 3) := by decide +kernel
theorem dX9_copy_88 : decode cX9_copy 88 = .ok (.ifCond .ne 9, 3) := by decide +kernel
theorem dX9_copy_91 : decode cX9_copy 91 = .ok (.aload_n 0, 1) := by decide +kernel
theorem dX9_copy_92 : decode cX9_copy 92 = .ok (.iconst 2, 1) := by decide +kernel
theorem dX9_copy_93 : decode cX9_copy 93 = .ok (.invokevirtual 190, 3) := by decide +kernel
theorem dX9_copy_96 : decode cX9_copy 96 = .ok (.ireturn, 1) := by decide +kernel
theorem dX9_copy_97 : decode cX9_copy 97 = .ok (.aload 6, 2) := by decide +kernel
theorem dX9_copy_99 : decode cX9_copy 99 = .ok (.getfield 133, 3) := by decide +kernel
theorem dX9_copy_102 : decode cX9_copy 102 = .ok (.iload_n 2, 1) := by decide +kernel
theorem dX9_copy_103 : decode cX9_copy 103 = .ok (.aload 7, 2) := by decide +kernel
theorem dX9_copy_105 : decode cX9_copy 105 = .ok (.getfield 133, 3) := by decide +kernel
theorem dX9_copy_108 : decode cX9_copy 108 = .ok (.iload 4, 2) := by decide +kernel
theorem dX9_copy_110 : decode cX9_copy 110 = .ok (.iload 5, 2) := by decide +kernel
theorem dX9_copy_112 : decode cX9_copy 112 = .ok (.invokestatic 324, 3) := by decide +kernel
theorem dX9_copy_115 : decode cX9_copy 115 = .ok (.iconst 1, 1) := by decide +kernel
theorem dX9_copy_116 : decode cX9_copy 116 = .ok (.ireturn, 1) := by decide +kernel
theorem dX9_write_0 : decode cX9_write 0 = .ok (.aload_n 0, 1) := by decide +kernel
theorem dX9_write_1 : decode cX9_write 1 = .ok (.iload_n 1, 1) := by decide +kernel
theorem dX9_write_2 : decode cX9_write 2 = .ok (.invokevirtual 186, 3) := by decide +kernel
theorem dX9_write_5 : decode cX9_write 5 = .ok (.astore_n 3, 1) := by decide +kernel
theorem dX9_write_6 : decode cX9_write 6 = .ok (.aload_n 0, 1) := by decide +kernel
theorem dX9_write_7 : decode cX9_write 7 = .ok (.iload_n 2, 1) := by decide +kernel
theorem dX9_write_8 : decode cX9_write 8 = .ok (.invokevirtual 119, 3) := by decide +kernel
theorem dX9_write_11 : decode cX9_write 11 = .ok (.astore 4, 2) := by decide +kernel
theorem dX9_write_13 : decode cX9_write 13 = .ok (.aload_n 3, 1) := by decide +kernel
theorem dX9_write_14 : decode cX9_write 14 = .ok (.ifnull 8, 3) := by decide +kernel
theorem dX9_write_17 : decode cX9_write 17 = .ok (.aload 4, 2) := by decide +kernel
theorem dX9_write_19 : decode cX9_write 19 = .ok (.ifnonnull 6, 3) := by decide +kernel
theorem dX9_write_22 : decode cX9_write 22 = .ok (.bipush (-2), 2) := by decide +kernel
theorem dX9_write_24 : decode cX9_write 24 = .ok (.ireturn, 1) := by decide +kernel
theorem dX9_write_25 : decode cX9_write 25 = .ok (.aload 4, 2) := by decide +kernel
theorem dX9_write_27 : decode cX9_write 27 = .ok (.getfield 123, 3) := by decide +kernel
theorem dX9_write_30 : decode cX9_write 30 = .ok (.ifCond .eq 9, 3) := by decide +kernel
theorem dX9_write_33 : decode cX9_write 33 = .ok (.aload_n 0, 1) := by decide +kernel
theorem dX9_write_34 : decode cX9_write 34 = .ok (.iconst 1, 1) := by decide +kernel
theorem dX9_write_35 : decode cX9_write 35 = .ok (.invokevirtual 190, 3) := by decide +kernel
theorem dX9_write_38 : decode cX9_write 38 = .ok (.ireturn, 1) := by decide +kernel
theorem dX9_write_39 : decode cX9_write 39 = .ok (.aload_n 3, 1) := by decide +kernel
theorem dX9_write_40 : decode cX9_write 40 = .ok (.getfield 220, 3) := by decide +kernel
theorem dX9_write_43 : decode cX9_write 43 = .ok (.aload 4, 2) := by decide +kernel
theorem dX9_write_45 : decode cX9_write 45 = .ok (.getfield 127, 3) := by decide +kernel
theorem dX9_write_48 : decode cX9_write 48 = .ok (.invokestatic 202, 3) := by decide +kernel
theorem dX9_write_51 : decode cX9_write 51 = .ok (.istore 5, 2) := by decide +kernel
theorem dX9_write_53 : decode cX9_write 53 = .ok (.aload_n 3, 1) := by decide +kernel
theorem dX9_write_54 : decode cX9_write 54 = .ok (.getfield 221, 3) := by decide +kernel
theorem dX9_write_57 : decode cX9_write 57 = .ok (.iconst 0, 1) := by decide +kernel
theorem dX9_write_58 : decode cX9_write 58 = .ok (.aload 4, 2) := by decide +kernel
theorem dX9_write_60 : decode cX9_write 60 = .ok (.getfield 133, 3) := by decide +kernel
theorem dX9_write_63 : decode cX9_write 63 = .ok (.iconst 0, 1) := by decide +kernel
theorem dX9_write_64 : decode cX9_write 64 = .ok (.iload 5, 2) := by decide +kernel
theorem dX9_write_66 : decode cX9_write 66 = .ok (.invokestatic 324, 3) := by decide +kernel
theorem dX9_write_69 : decode cX9_write 69 = .ok (.iload 5, 2) := by decide +kernel
theorem dX9_write_71 : decode cX9_write 71 = .ok (.ireturn, 1) := by decide +kernel
theorem dX9_count_0 : decode cX9_count 0 = .ok (.iload_n 1, 1) := by decide +kernel
theorem dX9_count_1 : decode cX9_count 1 = .ok (.tableswitch 111 0 8 #[51, 56, 61, 66, 71, 79, 87, 98, 106], 51) := by decide +kernel
theorem dX9_count_52 : decode cX9_count 52 = .ok (.aload_n 0, 1) := by decide +kernel
theorem dX9_count_53 : decode cX9_count 53 = .ok (.invokevirtual 330, 3) := by decide +kernel
theorem dX9_count_56 : decode cX9_count 56 = .ok (.ireturn, 1) := by decide +kernel
theorem dX9_count_57 : decode cX9_count 57 = .ok (.aload_n 0, 1) := by decide +kernel
theorem dX9_count_58 : decode cX9_count 58 = .ok (.getfield 66, 3) := by decide +kernel
theorem dX9_count_61 : decode cX9_count 61 = .ok (.ireturn, 1) := by decide +kernel
theorem dX9_count_62 : decode cX9_count 62 = .ok (.aload_n 0, 1) := by decide +kernel
theorem dX9_count_63 : decode cX9_count 63 = .ok (.invokevirtual 333, 3) := by decide +kernel
theorem dX9_count_66 : decode cX9_count 66 = .ok (.ireturn, 1) := by decide +kernel
theorem dX9_count_67 : decode cX9_count 67 = .ok (.aload_n 0, 1) := by decide +kernel
theorem dX9_count_68 : decode cX9_count 68 = .ok (.invokevirtual 336, 3) := by decide +kernel
theorem dX9_count_71 : decode cX9_count 71 = .ok (.ireturn, 1) := by decide +kernel
theorem dX9_count_72 : decode cX9_count 72 = .ok (.aload_n 0, 1) := by decide +kernel
theorem dX9_count_73 : decode cX9_count 73 = .ok (.getfield 55, 3) := by decide +kernel
theorem dX9_count_76 : decode cX9_count 76 = .ok (.getfield 339, 3) := by decide +kernel
theorem dX9_count_79 : decode cX9_count 79 = .ok (.ireturn, 1) := by decide +kernel
theorem dX9_count_80 : decode cX9_count 80 = .ok (.aload_n 0, 1) := by decide +kernel
theorem dX9_count_81 : decode cX9_count 81 = .ok (.getfield 62, 3) := by decide +kernel
theorem dX9_count_84 : decode cX9_count 84 = .ok (.getfield 342, 3) := by decide +kernel
theorem dX9_count_87 : decode cX9_count 87 = .ok (.ireturn, 1) := by decide +kernel
theorem dX9_count_88 : decode cX9_count 88 = .ok (.aload_n 0, 1) := by decide +kernel
theorem dX9_count_89 : decode cX9_count 89 = .ok (.getfield 62, 3) := by decide +kernel
theorem dX9_count_92 : decode cX9_count 92 = .ok (.getfield 283, 3) := by decide +kernel
theorem dX9_count_95 : decode cX9_count 95 = .ok (.invokestatic 147, 3) := by decide +kernel
theorem dX9_count_98 : decode cX9_count 98 = .ok (.ireturn, 1) := by decide +kernel
theorem dX9_count_99 : decode cX9_count 99 = .ok (.aload_n 0, 1) := by decide +kernel
theorem dX9_count_100 : decode cX9_count 100 = .ok (.getfield 55, 3) := by decide +kernel
theorem dX9_count_103 : decode cX9_count 103 = .ok (.getfield 263, 3) := by decide +kernel
theorem dX9_count_106 : decode cX9_count 106 = .ok (.ireturn, 1) := by decide +kernel
theorem dX9_count_107 : decode cX9_count 107 = .ok (.aload_n 0, 1) := by decide +kernel
theorem dX9_count_108 : decode cX9_count 108 = .ok (.getfield 70, 3) := by decide +kernel
theorem dX9_count_111 : decode cX9_count 111 = .ok (.ireturn, 1) := by decide +kernel
theorem dX9_count_112 : decode cX9_count 112 = .ok (.bipush (-2), 2) := by decide +kernel
theorem dX9_count_114 : decode cX9_count 114 = .ok (.ireturn, 1) := by decide +kernel
theorem dX9_digest_0 : decode cX9_digest 0 = .ok (.ldc2_w 343, 3) := by decide +kernel
theorem dX9_digest_3 : decode cX9_digest 3 = .ok (.lstore_n 1, 1) := by decide +kernel
theorem dX9_digest_4 : decode cX9_digest 4 = .ok (.iconst 0, 1) := by decide +kernel
theorem dX9_digest_5 : decode cX9_digest 5 = .ok (.istore_n 3, 1) := by decide +kernel
theorem dX9_digest_6 : decode cX9_digest 6 = .ok (.iload_n 3, 1) := by decide +kernel
theorem dX9_digest_7 : decode cX9_digest 7 = .ok (.bipush 7, 2) := by decide +kernel
theorem dX9_digest_9 : decode cX9_digest 9 = .ok (.if_icmp .gt 22, 3) := by decide +kernel
theorem dX9_digest_12 : decode cX9_digest 12 = .ok (.ldc2_w 345, 3) := by decide +kernel
theorem dX9_digest_15 : decode cX9_digest 15 = .ok (.lload_n 1, 1) := by decide +kernel
theorem dX9_digest_16 : decode cX9_digest 16 = .ok (.lmul, 1) := by decide +kernel
theorem dX9_digest_17 : decode cX9_digest 17 = .ok (.aload_n 0, 1) := by decide +kernel
theorem dX9_digest_18 : decode cX9_digest 18 = .ok (.iload_n 3, 1) := by decide +kernel
theorem dX9_digest_19 : decode cX9_digest 19 = .ok (.invokevirtual 347, 3) := by decide +kernel
theorem dX9_digest_22 : decode cX9_digest 22 = .ok (.i2l, 1) := by decide +kernel
theorem dX9_digest_23 : decode cX9_digest 23 = .ok (.ladd, 1) := by decide +kernel
theorem dX9_digest_24 : decode cX9_digest 24 = .ok (.lstore_n 1, 1) := by decide +kernel
theorem dX9_digest_25 : decode cX9_digest 25 = .ok (.iinc 3 1, 3) := by decide +kernel
theorem dX9_digest_28 : decode cX9_digest 28 = .ok (.goto (-22), 3) := by decide +kernel
theorem dX9_digest_31 : decode cX9_digest 31 = .ok (.iconst 0, 1) := by decide +kernel
theorem dX9_digest_32 : decode cX9_digest 32 = .ok (.istore_n 3, 1) := by decide +kernel
theorem dX9_digest_33 : decode cX9_digest 33 = .ok (.iload_n 3, 1) := by decide +kernel
theorem dX9_digest_34 : decode cX9_digest 34 = .ok (.iconst 4, 1) := by decide +kernel
theorem dX9_digest_35 : decode cX9_digest 35 = .ok (.if_icmp .ge 53, 3) := by decide +kernel
theorem dX9_digest_38 : decode cX9_digest 38 = .ok (.ldc2_w 345, 3) := by decide +kernel
theorem dX9_digest_41 : decode cX9_digest 41 = .ok (.lload_n 1, 1) := by decide +kernel
theorem dX9_digest_42 : decode cX9_digest 42 = .ok (.lmul, 1) := by decide +kernel
theorem dX9_digest_43 : decode cX9_digest 43 = .ok (.aload_n 0, 1) := by decide +kernel
theorem dX9_digest_44 : decode cX9_digest 44 = .ok (.iload_n 3, 1) := by decide +kernel
theorem dX9_digest_45 : decode cX9_digest 45 = .ok (.invokevirtual 350, 3) := by decide +kernel
theorem dX9_digest_48 : decode cX9_digest 48 = .ok (.i2l, 1) := by decide +kernel
theorem dX9_digest_49 : decode cX9_digest 49 = .ok (.ladd, 1) := by decide +kernel
theorem dX9_digest_50 : decode cX9_digest 50 = .ok (.lstore_n 1, 1) := by decide +kernel
theorem dX9_digest_51 : decode cX9_digest 51 = .ok (.iconst 0, 1) := by decide +kernel
theorem dX9_digest_52 : decode cX9_digest 52 = .ok (.istore 4, 2) := by decide +kernel
theorem dX9_digest_54 : decode cX9_digest 54 = .ok (.iload 4, 2) := by decide +kernel
theorem dX9_digest_56 : decode cX9_digest 56 = .ok (.bipush 16, 2) := by decide +kernel
theorem dX9_digest_58 : decode cX9_digest 58 = .ok (.if_icmp .ge 24, 3) := by decide +kernel
theorem dX9_digest_61 : decode cX9_digest 61 = .ok (.ldc2_w 345, 3) := by decide +kernel
theorem dX9_digest_64 : decode cX9_digest 64 = .ok (.lload_n 1, 1) := by decide +kernel
theorem dX9_digest_65 : decode cX9_digest 65 = .ok (.lmul, 1) := by decide +kernel
theorem dX9_digest_66 : decode cX9_digest 66 = .ok (.aload_n 0, 1) := by decide +kernel
theorem dX9_digest_67 : decode cX9_digest 67 = .ok (.iload_n 3, 1) := by decide +kernel
theorem dX9_digest_68 : decode cX9_digest 68 = .ok (.iload 4, 2) := by decide +kernel
theorem dX9_digest_70 : decode cX9_digest 70 = .ok (.invokevirtual 353, 3) := by decide +kernel
theorem dX9_digest_73 : decode cX9_digest 73 = .ok (.i2l, 1) := by decide +kernel
theorem dX9_digest_74 : decode cX9_digest 74 = .ok (.ladd, 1) := by decide +kernel
theorem dX9_digest_75 : decode cX9_digest 75 = .ok (.lstore_n 1, 1) := by decide +kernel
theorem dX9_digest_76 : decode cX9_digest 76 = .ok (.iinc 4 1, 3) := by decide +kernel
theorem dX9_digest_79 : decode cX9_digest 79 = .ok (.goto (-25), 3) := by decide +kernel
theorem dX9_digest_82 : decode cX9_digest 82 = .ok (.iinc 3 1, 3) := by decide +kernel
theorem dX9_digest_85 : decode cX9_digest 85 = .ok (.goto (-52), 3) := by decide +kernel
theorem dX9_digest_88 : decode cX9_digest 88 = .ok (.iconst 0, 1) := by decide +kernel
theorem dX9_digest_89 : decode cX9_digest 89 = .ok (.istore_n 3, 1) := by decide +kernel
theorem dX9_digest_90 : decode cX9_digest 90 = .ok (.iload_n 3, 1) := by decide +kernel
theorem dX9_digest_91 : decode cX9_digest 91 = .ok (.aload_n 0, 1) := by decide +kernel
theorem dX9_digest_92 : decode cX9_digest 92 = .ok (.getfield 66, 3) := by decide +kernel
theorem dX9_digest_95 : decode cX9_digest 95 = .ok (.if_icmp .ge 40, 3) := by decide +kernel
theorem dX9_digest_98 : decode cX9_digest 98 = .ok (.iconst 0, 1) := by decide +kernel
theorem dX9_digest_99 : decode cX9_digest 99 = .ok (.istore 4, 2) := by decide +kernel
theorem dX9_digest_101 : decode cX9_digest 101 = .ok (.iload 4, 2) := by decide +kernel
theorem dX9_digest_103 : decode cX9_digest 103 = .ok (.bipush 8, 2) := by decide +kernel
theorem dX9_digest_105 : decode cX9_digest 105 = .ok (.if_icmp .gt 24, 3) := by decide +kernel
theorem dX9_digest_108 : decode cX9_digest 108 = .ok (.ldc2_w 345, 3) := by decide +kernel
theorem dX9_digest_111 : decode cX9_digest 111 = .ok (.lload_n 1, 1) := by decide +kernel
theorem dX9_digest_112 : decode cX9_digest 112 = .ok (.lmul, 1) := by decide +kernel
theorem dX9_digest_113 : decode cX9_digest 113 = .ok (.aload_n 0, 1) := by decide +kernel
theorem dX9_digest_114 : decode cX9_digest 114 = .ok (.iload_n 3, 1) := by decide +kernel
theorem dX9_digest_115 : decode cX9_digest 115 = .ok (.iload 4, 2) := by decide +kernel
theorem dX9_digest_117 : decode cX9_digest 117 = .ok (.invokevirtual 356, 3) := by decide +kernel
theorem dX9_digest_120 : decode cX9_digest 120 = .ok (.i2l, 1) := by decide +kernel
theorem dX9_digest_121 : decode cX9_digest 121 = .ok (.ladd, 1) := by decide +kernel
theorem dX9_digest_122 : decode cX9_digest 122 = .ok (.lstore_n 1, 1) := by decide +kernel
theorem dX9_digest_123 : decode cX9_digest 123 = .ok (.iinc 4 1, 3) := by decide +kernel
theorem dX9_digest_126 : decode cX9_digest 126 = .ok (.goto (-25), 3) := by decide +kernel
theorem dX9_digest_129 : decode cX9_digest 129 = .ok (.iinc 3 1, 3) := by decide +kernel
theorem dX9_digest_132 : decode cX9_digest 132 = .ok (.goto (-42), 3) := by decide +kernel
theorem dX9_digest_135 : decode cX9_digest 135 = .ok (.ldc2_w 345, 3) := by decide +kernel
theorem dX9_digest_138 : decode cX9_digest 138 = .ok (.lload_n 1, 1) := by decide +kernel
theorem dX9_digest_139 : decode cX9_digest 139 = .ok (.lmul, 1) := by decide +kernel
theorem dX9_digest_140 : decode cX9_digest 140 = .ok (.aload_n 0, 1) := by decide +kernel
theorem dX9_digest_141 : decode cX9_digest 141 = .ok (.invokevirtual 359, 3) := by decide +kernel
theorem dX9_digest_144 : decode cX9_digest 144 = .ok (.i2l, 1) := by decide +kernel
theorem dX9_digest_145 : decode cX9_digest 145 = .ok (.ladd, 1) := by decide +kernel
theorem dX9_digest_146 : decode cX9_digest 146 = .ok (.lstore_n 1, 1) := by decide +kernel
theorem dX9_digest_147 : decode cX9_digest 147 = .ok (.ldc2_w 345, 3) := by decide +kernel
theorem dX9_digest_150 : decode cX9_digest 150 = .ok (.lload_n 1, 1) := by decide +kernel
theorem dX9_digest_151 : decode cX9_digest 151 = .ok (.lmul, 1) := by decide +kernel
theorem dX9_digest_152 : decode cX9_digest 152 = .ok (.aload_n 0, 1) := by decide +kernel
theorem dX9_digest_153 : decode cX9_digest 153 = .ok (.iconst (-1), 1) := by decide +kernel
theorem dX9_digest_154 : decode cX9_digest 154 = .ok (.sipush 399, 3) := by decide +kernel
theorem dX9_digest_157 : decode cX9_digest 157 = .ok (.invokevirtual 266, 3) := by decide +kernel
theorem dX9_digest_160 : decode cX9_digest 160 = .ok (.i2l, 1) := by decide +kernel
theorem dX9_digest_161 : decode cX9_digest 161 = .ok (.ladd, 1) := by decide +kernel
theorem dX9_digest_162 : decode cX9_digest 162 = .ok (.lreturn, 1) := by decide +kernel
theorem dX9_sheetAt_0 : decode cX9_sheetAt 0 = .ok (.iload_n 1, 1) := by decide +kernel
theorem dX9_sheetAt_1 : decode cX9_sheetAt 1 = .ok (.ifCond .lt 8, 3) := by decide +kernel
theorem dX9_sheetAt_4 : decode cX9_sheetAt 4 = .ok (.iload_n 1, 1) := by decide +kernel
theorem dX9_sheetAt_5 : decode cX9_sheetAt 5 = .ok (.iconst 4, 1) := by decide +kernel
theorem dX9_sheetAt_6 : decode cX9_sheetAt 6 = .ok (.if_icmp .lt 7, 3) := by decide +kernel
theorem dX9_sheetAt_9 : decode cX9_sheetAt 9 = .ok (.aconst_null, 1) := by decide +kernel
theorem dX9_sheetAt_10 : decode cX9_sheetAt 10 = .ok (.goto 9, 3) := by decide +kernel
theorem dX9_sheetAt_13 : decode cX9_sheetAt 13 = .ok (.aload_n 0, 1) := by decide +kernel
theorem dX9_sheetAt_14 : decode cX9_sheetAt 14 = .ok (.getfield 23, 3) := by decide +kernel
theorem dX9_sheetAt_17 : decode cX9_sheetAt 17 = .ok (.iload_n 1, 1) := by decide +kernel
theorem dX9_sheetAt_18 : decode cX9_sheetAt 18 = .ok (.aaload, 1) := by decide +kernel
theorem dX9_sheetAt_19 : decode cX9_sheetAt 19 = .ok (.areturn, 1) := by decide +kernel
theorem dX9_isType_0 : decode cX9_isType 0 = .ok (.iload_n 0, 1) := by decide +kernel
theorem dX9_isType_1 : decode cX9_isType 1 = .ok (.ifCond .lt 12, 3) := by decide +kernel
theorem dX9_isType_4 : decode cX9_isType 4 = .ok (.iload_n 0, 1) := by decide +kernel
theorem dX9_isType_5 : decode cX9_isType 5 = .ok (.iconst 3, 1) := by decide +kernel
theorem dX9_isType_6 : decode cX9_isType 6 = .ok (.if_icmp .ge 7, 3) := by decide +kernel
theorem dX9_isType_9 : decode cX9_isType 9 = .ok (.iconst 1, 1) := by decide +kernel
theorem dX9_isType_10 : decode cX9_isType 10 = .ok (.goto 4, 3) := by decide +kernel
theorem dX9_isType_13 : decode cX9_isType 13 = .ok (.iconst 0, 1) := by decide +kernel
theorem dX9_isType_14 : decode cX9_isType 14 = .ok (.ireturn, 1) := by decide +kernel
theorem dX9_finding_0 : decode cX9_finding 0 = .ok (.aload_n 0, 1) := by decide +kernel
theorem dX9_finding_1 : decode cX9_finding 1 = .ok (.iload_n 1, 1) := by decide +kernel
theorem dX9_finding_2 : decode cX9_finding 2 = .ok (.putfield 70, 3) := by decide +kernel
theorem dX9_finding_5 : decode cX9_finding 5 = .ok (.bipush (-10), 2) := by decide +kernel
theorem dX9_finding_7 : decode cX9_finding 7 = .ok (.iload_n 1, 1) := by decide +kernel
theorem dX9_finding_8 : decode cX9_finding 8 = .ok (.isub, 1) := by decide +kernel
theorem dX9_finding_9 : decode cX9_finding 9 = .ok (.ireturn, 1) := by decide +kernel
theorem dX9_countBytes_0 : decode cX9_countBytes 0 = .ok (.iconst 0, 1) := by decide +kernel
theorem dX9_countBytes_1 : decode cX9_countBytes 1 = .ok (.istore_n 1, 1) := by decide +kernel
theorem dX9_countBytes_2 : decode cX9_countBytes 2 = .ok (.iconst 0, 1) := by decide +kernel
theorem dX9_countBytes_3 : decode cX9_countBytes 3 = .ok (.istore_n 2, 1) := by decide +kernel
theorem dX9_countBytes_4 : decode cX9_countBytes 4 = .ok (.iload_n 2, 1) := by decide +kernel
theorem dX9_countBytes_5 : decode cX9_countBytes 5 = .ok (.iconst 4, 1) := by decide +kernel
theorem dX9_countBytes_6 : decode cX9_countBytes 6 = .ok (.if_icmp .ge 30, 3) := by decide +kernel
theorem dX9_countBytes_9 : decode cX9_countBytes 9 = .ok (.aload_n 0, 1) := by decide +kernel
theorem dX9_countBytes_10 : decode cX9_countBytes 10 = .ok (.iload_n 2, 1) := by decide +kernel
theorem dX9_countBytes_11 : decode cX9_countBytes 11 = .ok (.invokevirtual 90, 3) := by decide +kernel
theorem dX9_countBytes_14 : decode cX9_countBytes 14 = .ok (.astore_n 3, 1) := by decide +kernel
theorem dX9_countBytes_15 : decode cX9_countBytes 15 = .ok (.iload_n 1, 1) := by decide +kernel
theorem dX9_countBytes_16 : decode cX9_countBytes 16 = .ok (.aload_n 3, 1) := by decide +kernel
theorem dX9_countBytes_17 : decode cX9_countBytes 17 = .ok (.ifnonnull 7, 3) := by decide +kernel
theorem dX9_countBytes_20 : decode cX9_countBytes 20 = .ok (.iconst 0, 1) := by decide +kernel
theorem dX9_countBytes_21 : decode cX9_countBytes 21 = .ok (.goto 7, 3) := by decide +kernel
theorem dX9_countBytes_24 : decode cX9_countBytes 24 = .ok (.aload_n 3, 1) := by decide +kernel
theorem dX9_countBytes_25 : decode cX9_countBytes 25 = .ok (.getfield 362, 3) := by decide +kernel
theorem dX9_countBytes_28 : decode cX9_countBytes 28 = .ok (.iadd, 1) := by decide +kernel
theorem dX9_countBytes_29 : decode cX9_countBytes 29 = .ok (.istore_n 1, 1) := by decide +kernel
theorem dX9_countBytes_30 : decode cX9_countBytes 30 = .ok (.iinc 2 1, 3) := by decide +kernel
theorem dX9_countBytes_33 : decode cX9_countBytes 33 = .ok (.goto (-29), 3) := by decide +kernel
theorem dX9_countBytes_36 : decode cX9_countBytes 36 = .ok (.iload_n 1, 1) := by decide +kernel
theorem dX9_countBytes_37 : decode cX9_countBytes 37 = .ok (.ireturn, 1) := by decide +kernel
theorem dX9_countLogged_0 : decode cX9_countLogged 0 = .ok (.iconst 0, 1) := by decide +kernel
theorem dX9_countLogged_1 : decode cX9_countLogged 1 = .ok (.istore_n 1, 1) := by decide +kernel
theorem dX9_countLogged_2 : decode cX9_countLogged 2 = .ok (.iconst 0, 1) := by decide +kernel
theorem dX9_countLogged_3 : decode cX9_countLogged 3 = .ok (.istore_n 2, 1) := by decide +kernel
theorem dX9_countLogged_4 : decode cX9_countLogged 4 = .ok (.iload_n 2, 1) := by decide +kernel
theorem dX9_countLogged_5 : decode cX9_countLogged 5 = .ok (.aload_n 0, 1) := by decide +kernel
theorem dX9_countLogged_6 : decode cX9_countLogged 6 = .ok (.getfield 66, 3) := by decide +kernel
theorem dX9_countLogged_9 : decode cX9_countLogged 9 = .ok (.if_icmp .ge 30, 3) := by decide +kernel
theorem dX9_countLogged_12 : decode cX9_countLogged 12 = .ok (.aload_n 0, 1) := by decide +kernel
theorem dX9_countLogged_13 : decode cX9_countLogged 13 = .ok (.iload_n 2, 1) := by decide +kernel
theorem dX9_countLogged_14 : decode cX9_countLogged 14 = .ok (.invokevirtual 186, 3) := by decide +kernel
theorem dX9_countLogged_17 : decode cX9_countLogged 17 = .ok (.astore_n 3, 1) := by decide +kernel
theorem dX9_countLogged_18 : decode cX9_countLogged 18 = .ok (.iload_n 1, 1) := by decide +kernel
theorem dX9_countLogged_19 : decode cX9_countLogged 19 = .ok (.aload_n 3, 1) := by decide +kernel
theorem dX9_countLogged_20 : decode cX9_countLogged 20 = .ok (.ifnonnull 7, 3) := by decide +kernel
theorem dX9_countLogged_23 : decode cX9_countLogged 23 = .ok (.iconst 0, 1) := by decide +kernel
theorem dX9_countLogged_24 : decode cX9_countLogged 24 = .ok (.goto 7, 3) := by decide +kernel
theorem dX9_countLogged_27 : decode cX9_countLogged 27 = .ok (.aload_n 3, 1) := by decide +kernel
theorem dX9_countLogged_28 : decode cX9_countLogged 28 = .ok (.getfield 220, 3) := by decide +kernel
theorem dX9_countLogged_31 : decode cX9_countLogged 31 = .ok (.iadd, 1) := by decide +kernel
theorem dX9_countLogged_32 : decode cX9_countLogged 32 = .ok (.istore_n 1, 1) := by decide +kernel
theorem dX9_countLogged_33 : decode cX9_countLogged 33 = .ok (.iinc 2 1, 3) := by decide +kernel
theorem dX9_countLogged_36 : decode cX9_countLogged 36 = .ok (.goto (-32), 3) := by decide +kernel
theorem dX9_countLogged_39 : decode cX9_countLogged 39 = .ok (.iload_n 1, 1) := by decide +kernel
theorem dX9_countLogged_40 : decode cX9_countLogged 40 = .ok (.ireturn, 1) := by decide +kernel
theorem dX9_countShort_0 : decode cX9_countShort 0 = .ok (.iconst 0, 1) := by decide +kernel
theorem dX9_countShort_1 : decode cX9_countShort 1 = .ok (.istore_n 1, 1) := by decide +kernel
theorem dX9_countShort_2 : decode cX9_countShort 2 = .ok (.iconst 0, 1) := by decide +kernel
theorem dX9_countShort_3 : decode cX9_countShort 3 = .ok (.istore_n 2, 1) := by decide +kernel
theorem dX9_countShort_4 : decode cX9_countShort 4 = .ok (.iload_n 2, 1) := by decide +kernel
theorem dX9_countShort_5 : decode cX9_countShort 5 = .ok (.aload_n 0, 1) := by decide +kernel
theorem dX9_countShort_6 : decode cX9_countShort 6 = .ok (.getfield 66, 3) := by decide +kernel
theorem dX9_countShort_9 : decode cX9_countShort 9 = .ok (.if_icmp .ge 34, 3) := by decide +kernel
theorem dX9_countShort_12 : decode cX9_countShort 12 = .ok (.aload_n 0, 1) := by decide +kernel
theorem dX9_countShort_13 : decode cX9_countShort 13 = .ok (.iload_n 2, 1) := by decide +kernel
theorem dX9_countShort_14 : decode cX9_countShort 14 = .ok (.invokevirtual 186, 3) := by decide +kernel
theorem dX9_countShort_17 : decode cX9_countShort 17 = .ok (.astore_n 3, 1) := by decide +kernel
theorem dX9_countShort_18 : decode cX9_countShort 18 = .ok (.iload_n 1, 1) := by decide +kernel
theorem dX9_countShort_19 : decode cX9_countShort 19 = .ok (.aload_n 3, 1) := by decide +kernel
theorem dX9_countShort_20 : decode cX9_countShort 20 = .ok (.ifnull 14, 3) := by decide +kernel
theorem dX9_countShort_23 : decode cX9_countShort 23 = .ok (.aload_n 3, 1) := by decide +kernel
theorem dX9_countShort_24 : decode cX9_countShort 24 = .ok (.invokevirtual 269, 3) := by decide +kernel
theorem dX9_countShort_27 : decode cX9_countShort 27 = .ok (.ifCond .eq 7, 3) := by decide +kernel
theorem dX9_countShort_30 : decode cX9_countShort 30 = .ok (.iconst 1, 1) := by decide +kernel
theorem dX9_countShort_31 : decode cX9_countShort 31 = .ok (.goto 4, 3) := by decide +kernel
theorem dX9_countShort_34 : decode cX9_countShort 34 = .ok (.iconst 0, 1) := by decide +kernel
theorem dX9_countShort_35 : decode cX9_countShort 35 = .ok (.iadd, 1) := by decide +kernel
theorem dX9_countShort_36 : decode cX9_countShort 36 = .ok (.istore_n 1, 1) := by decide +kernel
theorem dX9_countShort_37 : decode cX9_countShort 37 = .ok (.iinc 2 1, 3) := by decide +kernel
theorem dX9_countShort_40 : decode cX9_countShort 40 = .ok (.goto (-36), 3) := by decide +kernel
theorem dX9_countShort_43 : decode cX9_countShort 43 = .ok (.iload_n 1, 1) := by decide +kernel
theorem dX9_countShort_44 : decode cX9_countShort 44 = .ok (.ireturn, 1) := by decide +kernel
theorem dX10_init_0 : decode cX10_init 0 = .ok (.aload_n 0, 1) := by decide +kernel
theorem dX10_init_1 : decode cX10_init 1 = .ok (.invokespecial 1, 3) := by decide +kernel
theorem dX10_init_4 : decode cX10_init 4 = .ok (.aload_n 0, 1) := by decide +kernel
theorem dX10_init_5 : decode cX10_init 5 = .ok (.iconst 4, 1) := by decide +kernel
theorem dX10_init_6 : decode cX10_init 6 = .ok (.newarray .int, 2) := by decide +kernel
theorem dX10_init_8 : decode cX10_init 8 = .ok (.putfield 7, 3) := by decide +kernel
theorem dX10_init_11 : decode cX10_init 11 = .ok (.aload_n 0, 1) := by decide +kernel
theorem dX10_init_12 : decode cX10_init 12 = .ok (.sipush 480, 3) := by decide +kernel
theorem dX10_init_15 : decode cX10_init 15 = .ok (.newarray .int, 2) := by decide +kernel
theorem dX10_init_17 : decode cX10_init 17 = .ok (.putfield 13, 3) := by decide +kernel
theorem dX10_init_20 : decode cX10_init 20 = .ok (.aload_n 0, 1) := by decide +kernel
theorem dX10_init_21 : decode cX10_init 21 = .ok (.iconst 4, 1) := by decide +kernel
theorem dX10_init_22 : decode cX10_init 22 = .ok (.newarray .boolean, 2) := by decide +kernel
theorem dX10_init_24 : decode cX10_init 24 = .ok (.putfield 16, 3) := by decide +kernel
theorem dX10_init_27 : decode cX10_init 27 = .ok (.aload_n 0, 1) := by decide +kernel
theorem dX10_init_28 : decode cX10_init 28 = .ok (.iconst 4, 1) := by decide +kernel
theorem dX10_init_29 : decode cX10_init 29 = .ok (.newarray .int, 2) := by decide +kernel
theorem dX10_init_31 : decode cX10_init 31 = .ok (.putfield 20, 3) := by decide +kernel
theorem dX10_init_34 : decode cX10_init 34 = .ok (.aload_n 0, 1) := by decide +kernel
theorem dX10_init_35 : decode cX10_init 35 = .ok (.bipush 64, 2) := by decide +kernel
theorem dX10_init_37 : decode cX10_init 37 = .ok (.newarray .int, 2) := by decide +kernel
theorem dX10_init_39 : decode cX10_init 39 = .ok (.putfield 23, 3) := by decide +kernel
theorem dX10_init_42 : decode cX10_init 42 = .ok (.aload_n 0, 1) := by decide +kernel
theorem dX10_init_43 : decode cX10_init 43 = .ok (.bipush 64, 2) := by decide +kernel
theorem dX10_init_45 : decode cX10_init 45 = .ok (.newarray .int, 2) := by decide +kernel
theorem dX10_init_47 : decode cX10_init 47 = .ok (.putfield 26, 3) := by decide +kernel
theorem dX10_init_50 : decode cX10_init 50 = .ok (.aload_n 0, 1) := by decide +kernel
theorem dX10_init_51 : decode cX10_init 51 = .ok (.sipush 240, 3) := by decide +kernel
theorem dX10_init_54 : decode cX10_init 54 = .ok (.newarray .int, 2) := by decide +kernel
theorem dX10_init_56 : decode cX10_init 56 = .ok (.putfield 29, 3) := by decide +kernel
theorem dX10_init_59 : decode cX10_init 59 = .ok (.aload_n 0, 1) := by decide +kernel
theorem dX10_init_60 : decode cX10_init 60 = .ok (.sipush 240, 3) := by decide +kernel
theorem dX10_init_63 : decode cX10_init 63 = .ok (.newarray .int, 2) := by decide +kernel
theorem dX10_init_65 : decode cX10_init 65 = .ok (.putfield 32, 3) := by decide +kernel
theorem dX10_init_68 : decode cX10_init 68 = .ok (.aload_n 0, 1) := by decide +kernel
theorem dX10_init_69 : decode cX10_init 69 = .ok (.sipush 240, 3) := by decide +kernel
theorem dX10_init_72 : decode cX10_init 72 = .ok (.newarray .int, 2) := by decide +kernel
theorem dX10_init_74 : decode cX10_init 74 = .ok (.putfield 35, 3) := by decide +kernel
theorem dX10_init_77 : decode cX10_init 77 = .ok (.aload_n 0, 1) := by decide +kernel
theorem dX10_init_78 : decode cX10_init 78 = .ok (.iconst 3, 1) := by decide +kernel
theorem dX10_init_79 : decode cX10_init 79 = .ok (.newarray .int, 2) := by decide +kernel
theorem dX10_init_81 : decode cX10_init 81 = .ok (.putfield 38, 3) := by decide +kernel
theorem dX10_init_84 : decode cX10_init 84 = .ok (.aload_n 0, 1) := by decide +kernel
theorem dX10_init_85 : decode cX10_init 85 = .ok (.iconst 5, 1) := by decide +kernel
theorem dX10_init_86 : decode cX10_init 86 = .ok (.newarray .int, 2) := by decide +kernel
theorem dX10_init_88 : decode cX10_init 88 = .ok (.putfield 41, 3) := by decide +kernel
theorem dX10_init_91 : decode cX10_init 91 = .ok (.aload_n 0, 1) := by decide +kernel
theorem dX10_init_92 : decode cX10_init 92 = .ok (.bipush 12, 2) := by decide +kernel
theorem dX10_init_94 : decode cX10_init 94 = .ok (.newarray .int, 2) := by decide +kernel
theorem dX10_init_96 : decode cX10_init 96 = .ok (.putfield 44, 3) := by decide +kernel
theorem dX10_init_99 : decode cX10_init 99 = .ok (.aload_n 0, 1) := by decide +kernel
theorem dX10_init_100 : decode cX10_init 100 = .ok (.bipush 12, 2) := by decide +kernel
theorem dX10_init_102 : decode cX10_init 102 = .ok (.newarray .int, 2) := by decide +kernel
theorem dX10_init_104 : decode cX10_init 104 = .ok (.putfield 47, 3) := by decide +kernel
theorem dX10_init_107 : decode cX10_init 107 = .ok (.aload_n 0, 1) := by decide +kernel
theorem dX10_init_108 : decode cX10_init 108 = .ok (.sipush 144, 3) := by decide +kernel
theorem dX10_init_111 : decode cX10_init 111 = .ok (.newarray .int, 2) := by decide +kernel
theorem dX10_init_113 : decode cX10_init 113 = .ok (.putfield 50, 3) := by decide +kernel
theorem dX10_init_116 : decode cX10_init 116 = .ok (.aload_n 0, 1) := by decide +kernel
theorem dX10_init_117 : decode cX10_init 117 = .ok (.bipush 12, 2) := by decide +kernel
theorem dX10_init_119 : decode cX10_init 119 = .ok (.newarray .int, 2) := by decide +kernel
theorem dX10_init_121 : decode cX10_init 121 = .ok (.putfield 53, 3) := by decide +kernel
theorem dX10_init_124 : decode cX10_init 124 = .ok (.aload_n 0, 1) := by decide +kernel
theorem dX10_init_125 : decode cX10_init 125 = .ok (.bipush 12, 2) := by decide +kernel
theorem dX10_init_127 : decode cX10_init 127 = .ok (.newarray .int, 2) := by decide +kernel
theorem dX10_init_129 : decode cX10_init 129 = .ok (.putfield 56, 3) := by decide +kernel
theorem dX10_init_132 : decode cX10_init 132 = .ok (.aload_n 0, 1) := by decide +kernel
theorem dX10_init_133 : decode cX10_init 133 = .ok (.bipush 12, 2) := by decide +kernel
theorem dX10_init_135 : decode cX10_init 135 = .ok (.newarray .int, 2) := by decide +kernel
theorem dX10_init_137 : decode cX10_init 137 = .ok (.putfield 59, 3) := by decide +kernel
theorem dX10_init_140 : decode cX10_init 140 = .ok (.aload_n 0, 1) := by decide +kernel
theorem dX10_init_141 : decode cX10_init 141 = .ok (.bipush 12, 2) := by decide +kernel
theorem dX10_init_143 : decode cX10_init 143 = .ok (.newarray .int, 2) := by decide +kernel
theorem dX10_init_145 : decode cX10_init 145 = .ok (.putfield 62, 3) := by decide +kernel
theorem dX10_init_148 : decode cX10_init 148 = .ok (.aload_n 0, 1) := by decide +kernel
theorem dX10_init_149 : decode cX10_init 149 = .ok (.bipush 12, 2) := by decide +kernel
theorem dX10_init_151 : decode cX10_init 151 = .ok (.newarray .int, 2) := by decide +kernel
theorem dX10_init_153 : decode cX10_init 153 = .ok (.putfield 65, 3) := by decide +kernel
theorem dX10_init_156 : decode cX10_init 156 = .ok (.aload_n 0, 1) := by decide +kernel
theorem dX10_init_157 : decode cX10_init 157 = .ok (.bipush 12, 2) := by decide +kernel
theorem dX10_init_159 : decode cX10_init 159 = .ok (.newarray .int, 2) := by decide +kernel
theorem dX10_init_161 : decode cX10_init 161 = .ok (.putfield 68, 3) := by decide +kernel
theorem dX10_init_164 : decode cX10_init 164 = .ok (.aload_n 0, 1) := by decide +kernel
theorem dX10_init_165 : decode cX10_init 165 = .ok (.sipush 512, 3) := by decide +kernel
theorem dX10_init_168 : decode cX10_init 168 = .ok (.newarray .int, 2) := by decide +kernel
theorem dX10_init_170 : decode cX10_init 170 = .ok (.putfield 71, 3) := by decide +kernel
theorem dX10_init_173 : decode cX10_init 173 = .ok (.aload_n 0, 1) := by decide +kernel
theorem dX10_init_174 : decode cX10_init 174 = .ok (.sipush 512, 3) := by decide +kernel
theorem dX10_init_177 : decode cX10_init 177 = .ok (.newarray .int, 2) := by decide +kernel
theorem dX10_init_179 : decode cX10_init 179 = .ok (.putfield 74, 3) := by decide +kernel
theorem dX10_init_182 : decode cX10_init 182 = .ok (.aload_n 0, 1) := by decide +kernel
theorem dX10_init_183 : decode cX10_init 183 = .ok (.bipush 40, 2) := by decide +kernel
theorem dX10_init_185 : decode cX10_init 185 = .ok (.newarray .int, 2) := by decide +kernel
theorem dX10_init_187 : decode cX10_init 187 = .ok (.putfield 77, 3) := by decide +kernel
theorem dX10_init_190 : decode cX10_init 190 = .ok (.aload_n 0, 1) := by decide +kernel
theorem dX10_init_191 : decode cX10_init 191 = .ok (.bipush 40, 2) := by decide +kernel
theorem dX10_init_193 : decode cX10_init 193 = .ok (.newarray .int, 2) := by decide +kernel
theorem dX10_init_195 : decode cX10_init 195 = .ok (.putfield 80, 3) := by decide +kernel
theorem dX10_init_198 : decode cX10_init 198 = .ok (.aload_n 0, 1) := by decide +kernel
theorem dX10_init_199 : decode cX10_init 199 = .ok (.bipush 40, 2) := by decide +kernel
theorem dX10_init_201 : decode cX10_init 201 = .ok (.newarray .int, 2) := by decide +kernel
theorem dX10_init_203 : decode cX10_init 203 = .ok (.putfield 83, 3) := by decide +kernel
theorem dX10_init_206 : decode cX10_init 206 = .ok (.aload_n 0, 1) := by decide +kernel
theorem dX10_init_207 : decode cX10_init 207 = .ok (.iconst 1, 1) := by decide +kernel
theorem dX10_init_208 : decode cX10_init 208 = .ok (.putfield 86, 3) := by decide +kernel
theorem dX10_init_211 : decode cX10_init 211 = .ok (.aload_n 0, 1) := by decide +kernel
theorem dX10_init_212 : decode cX10_init 212 = .ok (.bipush 16, 2) := by decide +kernel
theorem dX10_init_214 : decode cX10_init 214 = .ok (.newarray .int, 2) := by decide +kernel
theorem dX10_init_216 : decode cX10_init 216 = .ok (.putfield 90, 3) := by decide +kernel
theorem dX10_init_219 : decode cX10_init 219 = .ok (.aload_n 0, 1) := by decide +kernel
theorem dX10_init_220 : decode cX10_init 220 = .ok (.bipush 16, 2) := by decide +kernel
theorem dX10_init_222 : decode cX10_init 222 = .ok (.newarray .int, 2) := by decide +kernel
theorem dX10_init_224 : decode cX10_init 224 = .ok (.putfield 93, 3) := by decide +kernel
theorem dX10_init_227 : decode cX10_init 227 = .ok (.aload_n 0, 1) := by decide +kernel
theorem dX10_init_228 : decode cX10_init 228 = .ok (.sipush 255, 3) := by decide +kernel
theorem dX10_init_231 : decode cX10_init 231 = .ok (.putfield 96, 3) := by decide +kernel
theorem dX10_init_234 : decode cX10_init 234 = .ok (.aload_n 0, 1) := by decide +kernel
theorem dX10_init_235 : decode cX10_init 235 = .ok (.sipush 4096, 3) := by decide +kernel
theorem dX10_init_238 : decode cX10_init 238 = .ok (.newarray .int, 2) := by decide +kernel
theorem dX10_init_240 : decode cX10_init 240 = .ok (.putfield 99, 3) := by decide +kernel
theorem dX10_init_243 : decode cX10_init 243 = .ok (.aload_n 0, 1) := by decide +kernel
theorem dX10_init_244 : decode cX10_init 244 = .ok (.iconst 4, 1) := by decide +kernel
theorem dX10_init_245 : decode cX10_init 245 = .ok (.newarray .boolean, 2) := by decide +kernel
theorem dX10_init_247 : decode cX10_init 247 = .ok (.putfield 102, 3) := by decide +kernel
theorem dX10_init_250 : decode cX10_init 250 = .ok (.aload_n 0, 1) := by decide +kernel
theorem dX10_init_251 : decode cX10_init 251 = .ok (.iconst 4, 1) := by decide +kernel
theorem dX10_init_252 : decode cX10_init 252 = .ok (.newarray .int, 2) := by decide +kernel
theorem dX10_init_254 : decode cX10_init 254 = .ok (.putfield 105, 3) := by decide +kernel
theorem dX10_init_257 : decode cX10_init 257 = .ok (.aload_n 0, 1) := by decide +kernel
theorem dX10_init_258 : decode cX10_init 258 = .ok (.iconst 4, 1) := by decide +kernel
theorem dX10_init_259 : decode cX10_init 259 = .ok (.newarray .int, 2) := by decide +kernel
theorem dX10_init_261 : decode cX10_init 261 = .ok (.putfield 108, 3) := by decide +kernel
theorem dX10_init_264 : decode cX10_init 264 = .ok (.aload_n 0, 1) := by decide +kernel
theorem dX10_init_265 : decode cX10_init 265 = .ok (.sipush 160, 3) := by decide +kernel
theorem dX10_init_268 : decode cX10_init 268 = .ok (.newarray .int, 2) := by decide +kernel
theorem dX10_init_270 : decode cX10_init 270 = .ok (.putfield 111, 3) := by decide +kernel
theorem dX10_init_273 : decode cX10_init 273 = .ok (.aload_n 0, 1) := by decide +kernel
theorem dX10_init_274 : decode cX10_init 274 = .ok (.bipush 40, 2) := by decide +kernel
theorem dX10_init_276 : decode cX10_init 276 = .ok (.newarray .int, 2) := by decide +kernel
theorem dX10_init_278 : decode cX10_init 278 = .ok (.putfield 114, 3) := by decide +kernel
theorem dX10_init_281 : decode cX10_init 281 = .ok (.return_, 1) := by decide +kernel
theorem dX10_in_0 : decode cX10_in 0 = .ok (.iload_n 0, 1) := by decide +kernel
theorem dX10_in_1 : decode cX10_in 1 = .ok (.iload_n 1, 1) := by decide +kernel
theorem dX10_in_2 : decode cX10_in 2 = .ok (.if_icmp .lt 12, 3) := by decide +kernel
theorem dX10_in_5 : decode cX10_in 5 = .ok (.iload_n 0, 1) := by decide +kernel
theorem dX10_in_6 : decode cX10_in 6 = .ok (.iload_n 2, 1) := by decide +kernel
theorem dX10_in_7 : decode cX10_in 7 = .ok (.if_icmp .gt 7, 3) := by decide +kernel
theorem dX10_in_10 : decode cX10_in 10 = .ok (.iconst 1, 1) := by decide +kernel
theorem dX10_in_11 : decode cX10_in 11 = .ok (.goto 4, 3) := by decide +kernel
theorem dX10_in_14 : decode cX10_in 14 = .ok (.iconst 0, 1) := by decide +kernel
theorem dX10_in_15 : decode cX10_in 15 = .ok (.ireturn, 1) := by decide +kernel
theorem dX10_amount_0 : decode cX10_amount 0 = .ok (.iload_n 0, 1) := by decide +kernel
theorem dX10_amount_1 : decode cX10_amount 1 = .ok (.ifCond .ge 8, 3) := by decide +kernel
theorem dX10_amount_4 : decode cX10_amount 4 = .ok (.iload_n 0, 1) := by decide +kernel
theorem dX10_amount_5 : decode cX10_amount 5 = .ok (.ineg, 1) := by decide +kernel
theorem dX10_amount_6 : decode cX10_amount 6 = .ok (.goto 4, 3) := by decide +kernel
theorem dX10_amount_9 : decode cX10_amount 9 = .ok (.iload_n 0, 1) := by decide +kernel
theorem dX10_amount_10 : decode cX10_amount 10 = .ok (.ireturn, 1) := by decide +kernel
theorem dX10_ones_0 : decode cX10_ones 0 = .ok (.iconst 0, 1) := by decide +kernel
theorem dX10_ones_1 : decode cX10_ones 1 = .ok (.istore_n 1, 1) := by decide +kernel
theorem dX10_ones_2 : decode cX10_ones 2 = .ok (.iconst 0, 1) := by decide +kernel
theorem dX10_ones_3 : decode cX10_ones 3 = .ok (.istore_n 2, 1) := by decide +kernel
theorem dX10_ones_4 : decode cX10_ones 4 = .ok (.iload_n 2, 1) := by decide +kernel
theorem dX10_ones_5 : decode cX10_ones 5 = .ok (.bipush 16, 2) := by decide +kernel
theorem dX10_ones_7 : decode cX10_ones 7 = .ok (.if_icmp .ge 17, 3) := by decide +kernel
theorem dX10_ones_10 : decode cX10_ones 10 = .ok (.iload_n 1, 1) := by decide +kernel
theorem dX10_ones_11 : decode cX10_ones 11 = .ok (.iload_n 0, 1) := by decide +kernel
theorem dX10_ones_12 : decode cX10_ones 12 = .ok (.iload_n 2, 1) := by decide +kernel
theorem dX10_ones_13 : decode cX10_ones 13 = .ok (.ishr, 1) := by decide +kernel
theorem dX10_ones_14 : decode cX10_ones 14 = .ok (.iconst 1, 1) := by decide +kernel
theorem dX10_ones_15 : decode cX10_ones 15 = .ok (.iand, 1) := by decide +kernel
theorem dX10_ones_16 : decode cX10_ones 16 = .ok (.iadd, 1) := by decide +kernel
theorem dX10_ones_17 : decode cX10_ones 17 = .ok (.istore_n 1, 1) := by decide +kernel
theorem dX10_ones_18 : decode cX10_ones 18 = .ok (.iinc 2 1, 3) := by decide +kernel
theorem dX10_ones_21 : decode cX10_ones 21 = .ok (.goto (-17), 3) := by decide +kernel
theorem dX10_ones_24 : decode cX10_ones 24 = .ok (.iload_n 1, 1) := by decide +kernel
theorem dX10_ones_25 : decode cX10_ones 25 = .ok (.ireturn, 1) := by decide +kernel
theorem dX10_isVersion_0 : decode cX10_isVersion 0 = .ok (.iload_n 0, 1) := by decide +kernel
theorem dX10_isVersion_1 : decode cX10_isVersion 1 = .ok (.iconst 0, 1) := by decide +kernel
theorem dX10_isVersion_2 : decode cX10_isVersion 2 = .ok (.iconst 3, 1) := by decide +kernel
theorem dX10_isVersion_3 : decode cX10_isVersion 3 = .ok (.invokestatic 117, 3) := by decide +kernel
theorem dX10_isVersion_6 : decode cX10_isVersion 6 = .ok (.ireturn, 1) := by decide +kernel
theorem dX10_type_0 : decode cX10_type 0 = .ok (.iload_n 1, 1) := by decide +kernel
theorem dX10_type_1 : decode cX10_type 1 = .ok (.invokestatic 121, 3) := by decide +kernel
theorem dX10_type_4 : decode cX10_type 4 = .ok (.ifCond .eq 14, 3) := by decide +kernel
theorem dX10_type_7 : decode cX10_type 7 = .ok (.iload_n 2, 1) := by decide +kernel
theorem dX10_type_8 : decode cX10_type 8 = .ok (.iconst 0, 1) := by decide +kernel
theorem dX10_type_9 : decode cX10_type 9 = .ok (.sipush 255, 3) := by decide +kernel
theorem dX10_type_12 : decode cX10_type 12 = .ok (.invokestatic 117, 3) := by decide +kernel
theorem dX10_type_15 : decode cX10_type 15 = .ok (.ifCond .ne 6, 3) := by decide +kernel
theorem dX10_type_18 : decode cX10_type 18 = .ok (.bipush (-2), 2) := by decide +kernel
theorem dX10_type_20 : decode cX10_type 20 = .ok (.ireturn, 1) := by decide +kernel
theorem dX10_type_21 : decode cX10_type 21 = .ok (.aload_n 0, 1) := by decide +kernel
theorem dX10_type_22 : decode cX10_type 22 = .ok (.getfield 7, 3) := by decide +kernel
theorem dX10_type_25 : decode cX10_type 25 = .ok (.iload_n 1, 1) := by decide +kernel
theorem dX10_type_26 : decode cX10_type 26 = .ok (.iaload, 1) := by decide +kernel
theorem dX10_type_27 : decode cX10_type 27 = .ok (.bipush 120, 2) := by decide +kernel
theorem dX10_type_29 : decode cX10_type 29 = .ok (.if_icmp .ne 6, 3) := by decide +kernel
theorem dX10_type_32 : decode cX10_type 32 = .ok (.bipush (-4), 2) := by decide +kernel
theorem dX10_type_34 : decode cX10_type 34 = .ok (.ireturn, 1) := by decide +kernel
theorem dX10_type_35 : decode cX10_type 35 = .ok (.aload_n 0, 1) := by decide +kernel
theorem dX10_type_36 : decode cX10_type 36 = .ok (.getfield 13, 3) := by decide +kernel
theorem dX10_type_39 : decode cX10_type 39 = .ok (.bipush 120, 2) := by decide +kernel
theorem dX10_type_41 : decode cX10_type 41 = .ok (.iload_n 1, 1) := by decide +kernel
theorem dX10_type_42 : decode cX10_type 42 = .ok (.imul, 1) := by decide +kernel
theorem dX10_type_43 : decode cX10_type 43 = .ok (.aload_n 0, 1) := by decide +kernel
theorem dX10_type_44 : decode cX10_type 44 = .ok (.getfield 7, 3) := by decide +kernel
theorem dX10_type_47 : decode cX10_type 47 = .ok (.iload_n 1, 1) := by decide +kernel
theorem dX10_type_48 : decode cX10_type 48 = .ok (.iaload, 1) := by decide +kernel
theorem dX10_type_49 : decode cX10_type 49 = .ok (.iadd, 1) := by decide +kernel
theorem dX10_type_50 : decode cX10_type 50 = .ok (.iload_n 2, 1) := by decide +kernel
theorem dX10_type_51 : decode cX10_type 51 = .ok (.iastore, 1) := by decide +kernel
theorem dX10_type_52 : decode cX10_type 52 = .ok (.aload_n 0, 1) := by decide +kernel
theorem dX10_type_53 : decode cX10_type 53 = .ok (.getfield 7, 3) := by decide +kernel
theorem dX10_type_56 : decode cX10_type 56 = .ok (.iload_n 1, 1) := by decide +kernel
theorem dX10_type_57 : decode cX10_type 57 = .ok (.dup2, 1) := by decide +kernel
theorem dX10_type_58 : decode cX10_type 58 = .ok (.iaload, 1) := by decide +kernel
theorem dX10_type_59 : decode cX10_type 59 = .ok (.iconst 1, 1) := by decide +kernel
theorem dX10_type_60 : decode cX10_type 60 = .ok (.iadd, 1) := by decide +kernel
theorem dX10_type_61 : decode cX10_type 61 = .ok (.iastore, 1) := by decide +kernel
theorem dX10_type_62 : decode cX10_type 62 = .ok (.aload_n 0, 1) := by decide +kernel
theorem dX10_type_63 : decode cX10_type 63 = .ok (.getfield 16, 3) := by decide +kernel
theorem dX10_type_66 : decode cX10_type 66 = .ok (.iload_n 1, 1) := by decide +kernel
theorem dX10_type_67 : decode cX10_type 67 = .ok (.iconst 0, 1) := by decide +kernel
theorem dX10_type_68 : decode cX10_type 68 = .ok (.bastore, 1) := by decide +kernel
theorem dX10_type_69 : decode cX10_type 69 = .ok (.aload_n 0, 1) := by decide +kernel
theorem dX10_type_70 : decode cX10_type 70 = .ok (.getfield 7, 3) := by decide +kernel
theorem dX10_type_73 : decode cX10_type 73 = .ok (.iload_n 1, 1) := by decide +kernel
theorem dX10_type_74 : decode cX10_type 74 = .ok (.iaload, 1) := by decide +kernel
theorem dX10_type_75 : decode cX10_type 75 = .ok (.ireturn, 1) := by decide +kernel
theorem dX10_wipe_0 : decode cX10_wipe 0 = .ok (.iload_n 1, 1) := by decide +kernel
theorem dX10_wipe_1 : decode cX10_wipe 1 = .ok (.invokestatic 121, 3) := by decide +kernel
theorem dX10_wipe_4 : decode cX10_wipe 4 = .ok (.ifCond .ne 6, 3) := by decide +kernel
theorem dX10_wipe_7 : decode cX10_wipe 7 = .ok (.bipush (-2), 2) := by decide +kernel
theorem dX10_wipe_9 : decode cX10_wipe 9 = .ok (.ireturn, 1) := by decide +kernel
theorem dX10_wipe_10 : decode cX10_wipe 10 = .ok (.aload_n 0, 1) := by decide +kernel
theorem dX10_wipe_11 : decode cX10_wipe 11 = .ok (.getfield 7, 3) := by decide +kernel
theorem dX10_wipe_14 : decode cX10_wipe 14 = .ok (.iload_n 1, 1) := by decide +kernel
theorem dX10_wipe_15 : decode cX10_wipe 15 = .ok (.iaload, 1) := by decide +kernel
theorem dX10_wipe_16 : decode cX10_wipe 16 = .ok (.istore_n 2, 1) := by decide +kernel
theorem dX10_wipe_17 : decode cX10_wipe 17 = .ok (.aload_n 0, 1) := by decide +kernel
theorem dX10_wipe_18 : decode cX10_wipe 18 = .ok (.getfield 7, 3) := by decide +kernel
theorem dX10_wipe_21 : decode cX10_wipe 21 = .ok (.iload_n 1, 1) := by decide +kernel
theorem dX10_wipe_22 : decode cX10_wipe 22 = .ok (.iconst 0, 1) := by decide +kernel
theorem dX10_wipe_23 : decode cX10_wipe 23 = .ok (.iastore, 1) := by decide +kernel
theorem dX10_wipe_24 : decode cX10_wipe 24 = .ok (.aload_n 0, 1) := by decide +kernel
theorem dX10_wipe_25 : decode cX10_wipe 25 = .ok (.getfield 16, 3) := by decide +kernel
theorem dX10_wipe_28 : decode cX10_wipe 28 = .ok (.iload_n 1, 1) := by decide +kernel
theorem dX10_wipe_29 : decode cX10_wipe 29 = .ok (.iconst 0, 1) := by decide +kernel
theorem dX10_wipe_30 : decode cX10_wipe 30 = .ok (.bastore, 1) := by decide +kernel
theorem dX10_wipe_31 : decode cX10_wipe 31 = .ok (.iload_n 2, 1) := by decide +kernel
theorem dX10_wipe_32 : decode cX10_wipe 32 = .ok (.ireturn, 1) := by decide +kernel
theorem dX10_byteNow_0 : decode cX10_byteNow 0 = .ok (.aload_n 0, 1) := by decide +kernel
theorem dX10_byteNow_1 : decode cX10_byteNow 1 = .ok (.getfield 125, 3) := by decide +kernel
theorem dX10_byteNow_4 : decode cX10_byteNow 4 = .ok (.aload_n 0, 1) := by decide +kernel
theorem dX10_byteNow_5 : decode cX10_byteNow 5 = .ok (.getfield 7, 3) := by decide +kernel
theorem dX10_byteNow_8 : decode cX10_byteNow 8 = .ok (.aload_n 0, 1) := by decide +kernel
theorem dX10_byteNow_9 : decode cX10_byteNow 9 = .ok (.getfield 128, 3) := by decide +kernel
theorem dX10_byteNow_12 : decode cX10_byteNow 12 = .ok (.iaload, 1) := by decide +kernel
theorem dX10_byteNow_13 : decode cX10_byteNow 13 = .ok (.if_icmp .ge 23, 3) := by decide +kernel
theorem dX10_byteNow_16 : decode cX10_byteNow 16 = .ok (.aload_n 0, 1) := by decide +kernel
theorem dX10_byteNow_17 : decode cX10_byteNow 17 = .ok (.getfield 13, 3) := by decide +kernel
theorem dX10_byteNow_20 : decode cX10_byteNow 20 = .ok (.bipush 120, 2) := by decide +kernel
theorem dX10_byteNow_22 : decode cX10_byteNow 22 = .ok (.aload_n 0, 1) := by decide +kernel
theorem dX10_byteNow_23 : decode cX10_byteNow 23 = .ok (.getfield 128, 3) := by decide +kernel
theorem dX10_byteNow_26 : decode cX10_byteNow 26 = .ok (.imul, 1) := by decide +kernel
theorem dX10_byteNow_27 : decode cX10_byteNow 27 = .ok (.aload_n 0, 1) := by decide +kernel
theorem dX10_byteNow_28 : decode cX10_byteNow 28 = .ok (.getfield 125, 3) := by decide +kernel
theorem dX10_byteNow_31 : decode cX10_byteNow 31 = .ok (.iadd, 1) := by decide +kernel
theorem dX10_byteNow_32 : decode cX10_byteNow 32 = .ok (.iaload, 1) := by decide +kernel
theorem dX10_byteNow_33 : decode cX10_byteNow 33 = .ok (.goto 4, 3) := by decide +kernel
theorem dX10_byteNow_36 : decode cX10_byteNow 36 = .ok (.iconst (-1), 1) := by decide +kernel
theorem dX10_byteNow_37 : decode cX10_byteNow 37 = .ok (.ireturn, 1) := by decide +kernel
theorem dX10_eventOf_0 : decode cX10_eventOf 0 = .ok (.iload_n 0, 1) := by decide +kernel
theorem dX10_eventOf_1 : decode cX10_eventOf 1 = .ok (.tableswitch 129 97 120 #[119, 126, 129, 117, 129, 129, 129, 129, 129, 129, 115, 129, 129, 129, 129, 129, 129, 113, 111, 123, 129, 129, 129, 121], 111) := by decide +kernel
theorem dX10_eventOf_112 : decode cX10_eventOf 112 = .ok (.iconst 0, 1) := by decide +kernel
theorem dX10_eventOf_113 : decode cX10_eventOf 113 = .ok (.ireturn, 1) := by decide +kernel
theorem dX10_eventOf_114 : decode cX10_eventOf 114 = .ok (.iconst 1, 1) := by decide +kernel
theorem dX10_eventOf_115 : decode cX10_eventOf 115 = .ok (.ireturn, 1) := by decide +kernel
theorem dX10_eventOf_116 : decode cX10_eventOf 116 = .ok (.iconst 2, 1) := by decide +kernel
theorem dX10_eventOf_117 : decode cX10_eventOf 117 = .ok (.ireturn, 1) := by decide +kernel
theorem dX10_eventOf_118 : decode cX10_eventOf 118 = .ok (.iconst 3, 1) := by decide +kernel
theorem dX10_eventOf_119 : decode cX10_eventOf 119 = .ok (.ireturn, 1) := by decide +kernel
theorem dX10_eventOf_120 : decode cX10_eventOf 120 = .ok (.iconst 4, 1) := by decide +kernel
theorem dX10_eventOf_121 : decode cX10_eventOf 121 = .ok (.ireturn, 1) := by decide +kernel
theorem dX10_eventOf_122 : decode cX10_eventOf 122 = .ok (.iconst 5, 1) := by decide +kernel
theorem dX10_eventOf_123 : decode cX10_eventOf 123 = .ok (.ireturn, 1) := by decide +kernel
theorem dX10_eventOf_124 : decode cX10_eventOf 124 = .ok (.bipush 6, 2) := by decide +kernel
theorem dX10_eventOf_126 : decode cX10_eventOf 126 = .ok (.ireturn, 1) := by decide +kernel
theorem dX10_eventOf_127 : decode cX10_eventOf 127 = .ok (.bipush 7, 2) := by decide +kernel
theorem dX10_eventOf_129 : decode cX10_eventOf 129 = .ok (.ireturn, 1) := by decide +kernel
theorem dX10_eventOf_130 : decode cX10_eventOf 130 = .ok (.iconst (-1), 1) := by decide +kernel
theorem dX10_eventOf_131 : decode cX10_eventOf 131 = .ok (.ireturn, 1) := by decide +kernel
theorem dX10_registerOf_0 : decode cX10_registerOf 0 = .ok (.iload_n 0, 1) := by decide +kernel
theorem dX10_registerOf_1 : decode cX10_registerOf 1 = .ok (.bipush 108, 2) := by decide +kernel
theorem dX10_registerOf_3 : decode cX10_registerOf 3 = .ok (.if_icmp .ne 7, 3) := by decide +kernel
theorem dX10_registerOf_6 : decode cX10_registerOf 6 = .ok (.iconst 0, 1) := by decide +kernel
theorem dX10_registerOf_7 : decode cX10_registerOf 7 = .ok (.goto 24, 3) := by decide +kernel
theorem dX10_registerOf_10 : decode cX10_registerOf 10 = .ok (.iload_n 0, 1) := by decide +kernel
theorem dX10_registerOf_11 : decode cX10_registerOf 11 = .ok (.bipush 112, 2) := by decide +kernel
theorem dX10_registerOf_13 : decode cX10_registerOf 13 = .ok (.if_icmp .ne 7, 3) := by decide +kernel
theorem dX10_registerOf_16 : decode cX10_registerOf 16 = .ok (.iconst 1, 1) := by decide +kernel
theorem dX10_registerOf_17 : decode cX10_registerOf 17 = .ok (.goto 14, 3) := by decide +kernel
theorem dX10_registerOf_20 : decode cX10_registerOf 20 = .ok (.iload_n 0, 1) := by decide +kernel
theorem dX10_registerOf_21 : decode cX10_registerOf 21 = .ok (.bipush 99, 2) := by decide +kernel
theorem dX10_registerOf_23 : decode cX10_registerOf 23 = .ok (.if_icmp .ne 7, 3) := by decide +kernel
theorem dX10_registerOf_26 : decode cX10_registerOf 26 = .ok (.iconst 2, 1) := by decide +kernel
theorem dX10_registerOf_27 : decode cX10_registerOf 27 = .ok (.goto 4, 3) := by decide +kernel
theorem dX10_registerOf_30 : decode cX10_registerOf 30 = .ok (.iconst (-1), 1) := by decide +kernel
theorem dX10_registerOf_31 : decode cX10_registerOf 31 = .ok (.ireturn, 1) := by decide +kernel
theorem dX10_mode_0 : decode cX10_mode 0 = .ok (.aload_n 0, 1) := by decide +kernel
theorem dX10_mode_1 : decode cX10_mode 1 = .ok (.invokevirtual 131, 3) := by decide +kernel
theorem dX10_mode_4 : decode cX10_mode 4 = .ok (.istore_n 1, 1) := by decide +kernel
theorem dX10_mode_5 : decode cX10_mode 5 = .ok (.aload_n 0, 1) := by decide +kernel
theorem dX10_mode_6 : decode cX10_mode 6 = .ok (.getfield 135, 3) := by decide +kernel
theorem dX10_mode_9 : decode cX10_mode 9 = .ok (.iconst (-1), 1) := by decide +kernel
theorem dX10_mode_10 : decode cX10_mode 10 = .ok (.if_icmp .ne 23, 3) := by decide +kernel
theorem dX10_mode_13 : decode cX10_mode 13 = .ok (.iload_n 1, 1) := by decide +kernel
theorem dX10_mode_14 : decode cX10_mode 14 = .ok (.bipush 48, 2) := by decide +kernel
theorem dX10_mode_16 : decode cX10_mode 16 = .ok (.if_icmp .eq 17, 3) := by decide +kernel
theorem dX10_mode_19 : decode cX10_mode 19 = .ok (.iload_n 1, 1) := by decide +kernel
theorem dX10_mode_20 : decode cX10_mode 20 = .ok (.bipush 49, 2) := by decide +kernel
theorem dX10_mode_22 : decode cX10_mode 22 = .ok (.if_icmp .eq 11, 3) := by decide +kernel
theorem dX10_mode_25 : decode cX10_mode 25 = .ok (.aload_n 0, 1) := by decide +kernel
theorem dX10_mode_26 : decode cX10_mode 26 = .ok (.aload_n 0, 1) := by decide +kernel
theorem dX10_mode_27 : decode cX10_mode 27 = .ok (.getfield 125, 3) := by decide +kernel
theorem dX10_mode_30 : decode cX10_mode 30 = .ok (.putfield 135, 3) := by decide +kernel
theorem dX10_mode_33 : decode cX10_mode 33 = .ok (.aload_n 0, 1) := by decide +kernel
theorem dX10_mode_34 : decode cX10_mode 34 = .ok (.dup, 1) := by decide +kernel
theorem dX10_mode_35 : decode cX10_mode 35 = .ok (.getfield 125, 3) := by decide +kernel
theorem dX10_mode_38 : decode cX10_mode 38 = .ok (.iconst 1, 1) := by decide +kernel
theorem dX10_mode_39 : decode cX10_mode 39 = .ok (.iadd, 1) := by decide +kernel
theorem dX10_mode_40 : decode cX10_mode 40 = .ok (.putfield 125, 3) := by decide +kernel
theorem dX10_mode_43 : decode cX10_mode 43 = .ok (.iload_n 1, 1) := by decide +kernel
theorem dX10_mode_44 : decode cX10_mode 44 = .ok (.bipush 48, 2) := by decide +kernel
theorem dX10_mode_46 : decode cX10_mode 46 = .ok (.isub, 1) := by decide +kernel
theorem dX10_mode_47 : decode cX10_mode 47 = .ok (.ireturn, 1) := by decide +kernel
theorem dX10_act_0 : decode cX10_act 0 = .ok (.aload_n 0, 1) := by decide +kernel
theorem dX10_act_1 : decode cX10_act 1 = .ok (.invokevirtual 131, 3) := by decide +kernel
theorem dX10_act_4 : decode cX10_act 4 = .ok (.invokestatic 138, 3) := by decide +kernel
theorem dX10_act_7 : decode cX10_act 7 = .ok (.istore_n 1, 1) := by decide +kernel
theorem dX10_act_8 : decode cX10_act 8 = .ok (.iconst 0, 1) := by decide +kernel
theorem dX10_act_9 : decode cX10_act 9 = .ok (.istore_n 2, 1) := by decide +kernel
theorem dX10_act_10 : decode cX10_act 10 = .ok (.iconst 0, 1) := by decide +kernel
theorem dX10_act_11 : decode cX10_act 11 = .ok (.istore_n 3, 1) := by decide +kernel
theorem dX10_act_12 : decode cX10_act 12 = .ok (.aload_n 0, 1) := by decide +kernel
theorem dX10_act_13 : decode cX10_act 13 = .ok (.invokevirtual 131, 3) := by decide +kernel
theorem dX10_act_16 : decode cX10_act 16 = .ok (.bipush 109, 2) := by decide +kernel
theorem dX10_act_18 : decode cX10_act 18 = .ok (.if_icmp .ne 23, 3) := by decide +kernel
theorem dX10_act_21 : decode cX10_act 21 = .ok (.aload_n 0, 1) := by decide +kernel
theorem dX10_act_22 : decode cX10_act 22 = .ok (.dup, 1) := by decide +kernel
theorem dX10_act_23 : decode cX10_act 23 = .ok (.getfield 125, 3) := by decide +kernel
theorem dX10_act_26 : decode cX10_act 26 = .ok (.iconst 1, 1) := by decide +kernel
theorem dX10_act_27 : decode cX10_act 27 = .ok (.iadd, 1) := by decide +kernel
theorem dX10_act_28 : decode cX10_act 28 = .ok (.putfield 125, 3) := by decide +kernel
theorem dX10_act_31 : decode cX10_act 31 = .ok (.iconst 3, 1) := by decide +kernel
theorem dX10_act_32 : decode cX10_act 32 = .ok (.istore_n 1, 1) := by decide +kernel
theorem dX10_act_33 : decode cX10_act 33 = .ok (.aload_n 0, 1) := by decide +kernel
theorem dX10_act_34 : decode cX10_act 34 = .ok (.invokevirtual 142, 3) := by decide +kernel
theorem dX10_act_37 : decode cX10_act 37 = .ok (.istore_n 3, 1) := by decide +kernel
theorem dX10_act_38 : decode cX10_act 38 = .ok (.goto 180, 3) := by decide +kernel
theorem dX10_act_41 : decode cX10_act 41 = .ok (.iload_n 1, 1) := by decide +kernel
theorem dX10_act_42 : decode cX10_act 42 = .ok (.iconst (-1), 1) := by decide +kernel
theorem dX10_act_43 : decode cX10_act 43 = .ok (.if_icmp .ne 14, 3) := by decide +kernel
theorem dX10_act_46 : decode cX10_act 46 = .ok (.aload_n 0, 1) := by decide +kernel
theorem dX10_act_47 : decode cX10_act 47 = .ok (.aload_n 0, 1) := by decide +kernel
theorem dX10_act_48 : decode cX10_act 48 = .ok (.getfield 125, 3) := by decide +kernel
theorem dX10_act_51 : decode cX10_act 51 = .ok (.putfield 135, 3) := by decide +kernel
theorem dX10_act_54 : decode cX10_act 54 = .ok (.goto 164, 3) := by decide +kernel
theorem dX10_act_57 : decode cX10_act 57 = .ok (.aload_n 0, 1) := by decide +kernel
theorem dX10_act_58 : decode cX10_act 58 = .ok (.dup, 1) := by decide +kernel
theorem dX10_act_59 : decode cX10_act 59 = .ok (.getfield 125, 3) := by decide +kernel
theorem dX10_act_62 : decode cX10_act 62 = .ok (.iconst 1, 1) := by decide +kernel
theorem dX10_act_63 : decode cX10_act 63 = .ok (.iadd, 1) := by decide +kernel
theorem dX10_act_64 : decode cX10_act 64 = .ok (.putfield 125, 3) := by decide +kernel
theorem dX10_act_67 : decode cX10_act 67 = .ok (.aload_n 0, 1) := by decide +kernel
theorem dX10_act_68 : decode cX10_act 68 = .ok (.invokevirtual 131, 3) := by decide +kernel
theorem dX10_act_71 : decode cX10_act 71 = .ok (.istore 4, 2) := by decide +kernel
theorem dX10_act_73 : decode cX10_act 73 = .ok (.iload 4, 2) := by decide +kernel
theorem dX10_act_75 : decode cX10_act 75 = .ok (.bipush 43, 2) := by decide +kernel
theorem dX10_act_77 : decode cX10_act 77 = .ok (.if_icmp .ne 7, 3) := by decide +kernel
theorem dX10_act_80 : decode cX10_act 80 = .ok (.iconst 1, 1) := by decide +kernel
theorem dX10_act_81 : decode cX10_act 81 = .ok (.goto 15, 3) := by decide +kernel
theorem dX10_act_84 : decode cX10_act 84 = .ok (.iload 4, 2) := by decide +kernel
theorem dX10_act_86 : decode cX10_act 86 = .ok (.bipush 45, 2) := by decide +kernel
theorem dX10_act_88 : decode cX10_act 88 = .ok (.if_icmp .ne 7, 3) := by decide +kernel
theorem dX10_act_91 : decode cX10_act 91 = .ok (.iconst 2, 1) := by decide +kernel
theorem dX10_act_92 : decode cX10_act 92 = .ok (.goto 4, 3) := by decide +kernel
theorem dX10_act_95 : decode cX10_act 95 = .ok (.iconst 0, 1) := by decide +kernel
theorem dX10_act_96 : decode cX10_act 96 = .ok (.istore_n 2, 1) := by decide +kernel
theorem dX10_act_97 : decode cX10_act 97 = .ok (.iload 4, 2) := by decide +kernel
theorem dX10_act_99 : decode cX10_act 99 = .ok (.bipush 43, 2) := by decide +kernel
theorem dX10_act_101 : decode cX10_act 101 = .ok (.if_icmp .eq 25, 3) := by decide +kernel
theorem dX10_act_104 : decode cX10_act 104 = .ok (.iload 4, 2) := by decide +kernel
theorem dX10_act_106 : decode cX10_act 106 = .ok (.bipush 45, 2) := by decide +kernel
theorem dX10_act_108 : decode cX10_act 108 = .ok (.if_icmp .eq 18, 3) := by decide +kernel
theorem dX10_act_111 : decode cX10_act 111 = .ok (.iload 4, 2) := by decide +kernel
theorem dX10_act_113 : decode cX10_act 113 = .ok (.bipush 61, 2) := by decide +kernel
theorem dX10_act_115 : decode cX10_act 115 = .ok (.if_icmp .eq 11, 3) := by decide +kernel
theorem dX10_act_118 : decode cX10_act 118 = .ok (.aload_n 0, 1) := by decide +kernel
theorem dX10_act_119 : decode cX10_act 119 = .ok (.aload_n 0, 1) := by decide +kernel
theorem dX10_act_120 : decode cX10_act 120 = .ok (.getfield 125, 3) := by decide +kernel
theorem dX10_act_123 : decode cX10_act 123 = .ok (.putfield 135, 3) := by decide +kernel
theorem dX10_act_126 : decode cX10_act 126 = .ok (.aload_n 0, 1) := by decide +kernel
theorem dX10_act_127 : decode cX10_act 127 = .ok (.dup, 1) := by decide +kernel
theorem dX10_act_128 : decode cX10_act 128 = .ok (.getfield 125, 3) := by decide +kernel
theorem dX10_act_131 : decode cX10_act 131 = .ok (.iconst 1, 1) := by decide +kernel
theorem dX10_act_132 : decode cX10_act 132 = .ok (.iadd, 1) := by decide +kernel
theorem dX10_act_133 : decode cX10_act 133 = .ok (.putfield 125, 3) := by decide +kernel
theorem dX10_act_136 : decode cX10_act 136 = .ok (.aload_n 0, 1) := by decide +kernel
theorem dX10_act_137 : decode cX10_act 137 = .ok (.invokevirtual 131, 3) := by decide +kernel
theorem dX10_act_140 : decode cX10_act 140 = .ok (.istore 5, 2) := by decide +kernel
theorem dX10_act_142 : decode cX10_act 142 = .ok (.aload_n 0, 1) := by decide +kernel
theorem dX10_act_143 : decode cX10_act 143 = .ok (.getfield 135, 3) := by decide +kernel
