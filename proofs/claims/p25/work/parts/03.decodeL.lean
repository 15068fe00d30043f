theorem dL_cell_0 : decode cL_cell 0 = .ok (.iload_n 1, 1) := by decide +kernel
theorem dL_cell_1 : decode cL_cell 1 = .ok (.aload_n 0, 1) := by decide +kernel
theorem dL_cell_2 : decode cL_cell 2 = .ok (.arraylength, 1) := by decide +kernel
theorem dL_cell_3 : decode cL_cell 3 = .ok (.if_icmp .ge 9, 3) := by decide +kernel
theorem dL_cell_6 : decode cL_cell 6 = .ok (.aload_n 0, 1) := by decide +kernel
theorem dL_cell_7 : decode cL_cell 7 = .ok (.iload_n 1, 1) := by decide +kernel
theorem dL_cell_8 : decode cL_cell 8 = .ok (.iaload, 1) := by decide +kernel
theorem dL_cell_9 : decode cL_cell 9 = .ok (.goto 11, 3) := by decide +kernel
theorem dL_cell_12 : decode cL_cell 12 = .ok (.ldc 7, 2) := by decide +kernel
theorem dL_cell_14 : decode cL_cell 14 = .ok (.iload_n 1, 1) := by decide +kernel
theorem dL_cell_15 : decode cL_cell 15 = .ok (.imul, 1) := by decide +kernel
theorem dL_cell_16 : decode cL_cell 16 = .ok (.sipush 283, 3) := by decide +kernel
theorem dL_cell_19 : decode cL_cell 19 = .ok (.iadd, 1) := by decide +kernel
theorem dL_cell_20 : decode cL_cell 20 = .ok (.ireturn, 1) := by decide +kernel
theorem dL_low_0 : decode cL_low 0 = .ok (.iload_n 0, 1) := by decide +kernel
theorem dL_low_1 : decode cL_low 1 = .ok (.ldc 8, 2) := by decide +kernel
theorem dL_low_3 : decode cL_low 3 = .ok (.iand, 1) := by decide +kernel
theorem dL_low_4 : decode cL_low 4 = .ok (.iload_n 1, 1) := by decide +kernel
theorem dL_low_5 : decode cL_low 5 = .ok (.irem, 1) := by decide +kernel
theorem dL_low_6 : decode cL_low 6 = .ok (.ireturn, 1) := by decide +kernel
theorem dL_size_0 : decode cL_size 0 = .ok (.iload_n 0, 1) := by decide +kernel
theorem dL_size_1 : decode cL_size 1 = .ok (.ifCond .ge 8, 3) := by decide +kernel
theorem dL_size_4 : decode cL_size 4 = .ok (.iload_n 0, 1) := by decide +kernel
theorem dL_size_5 : decode cL_size 5 = .ok (.ineg, 1) := by decide +kernel
theorem dL_size_6 : decode cL_size 6 = .ok (.goto 4, 3) := by decide +kernel
theorem dL_size_9 : decode cL_size 9 = .ok (.iload_n 0, 1) := by decide +kernel
theorem dL_size_10 : decode cL_size 10 = .ok (.ireturn, 1) := by decide +kernel
theorem dL_far_0 : decode cL_far 0 = .ok (.aload_n 0, 1) := by decide +kernel
theorem dL_far_1 : decode cL_far 1 = .ok (.iconst 2, 1) := by decide +kernel
theorem dL_far_2 : decode cL_far 2 = .ok (.iload_n 1, 1) := by decide +kernel
theorem dL_far_3 : decode cL_far 3 = .ok (.imul, 1) := by decide +kernel
theorem dL_far_4 : decode cL_far 4 = .ok (.iaload, 1) := by decide +kernel
theorem dL_far_5 : decode cL_far 5 = .ok (.aload_n 0, 1) := by decide +kernel
theorem dL_far_6 : decode cL_far 6 = .ok (.iconst 2, 1) := by decide +kernel
theorem dL_far_7 : decode cL_far 7 = .ok (.iload_n 2, 1) := by decide +kernel
theorem dL_far_8 : decode cL_far 8 = .ok (.imul, 1) := by decide +kernel
theorem dL_far_9 : decode cL_far 9 = .ok (.iaload, 1) := by decide +kernel
theorem dL_far_10 : decode cL_far 10 = .ok (.isub, 1) := by decide +kernel
theorem dL_far_11 : decode cL_far 11 = .ok (.invokestatic 9, 3) := by decide +kernel
theorem dL_far_14 : decode cL_far 14 = .ok (.aload_n 0, 1) := by decide +kernel
theorem dL_far_15 : decode cL_far 15 = .ok (.iconst 2, 1) := by decide +kernel
theorem dL_far_16 : decode cL_far 16 = .ok (.iload_n 1, 1) := by decide +kernel
theorem dL_far_17 : decode cL_far 17 = .ok (.imul, 1) := by decide +kernel
theorem dL_far_18 : decode cL_far 18 = .ok (.iconst 1, 1) := by decide +kernel
theorem dL_far_19 : decode cL_far 19 = .ok (.iadd, 1) := by decide +kernel
theorem dL_far_20 : decode cL_far 20 = .ok (.iaload, 1) := by decide +kernel
theorem dL_far_21 : decode cL_far 21 = .ok (.aload_n 0, 1) := by decide +kernel
theorem dL_far_22 : decode cL_far 22 = .ok (.iconst 2, 1) := by decide +kernel
theorem dL_far_23 : decode cL_far 23 = .ok (.iload_n 2, 1) := by decide +kernel
theorem dL_far_24 : decode cL_far 24 = .ok (.imul, 1) := by decide +kernel
theorem dL_far_25 : decode cL_far 25 = .ok (.iconst 1, 1) := by decide +kernel
theorem dL_far_26 : decode cL_far 26 = .ok (.iadd, 1) := by decide +kernel
theorem dL_far_27 : decode cL_far 27 = .ok (.iaload, 1) := by decide +kernel
theorem dL_far_28 : decode cL_far 28 = .ok (.isub, 1) := by decide +kernel
theorem dL_far_29 : decode cL_far 29 = .ok (.invokestatic 9, 3) := by decide +kernel
theorem dL_far_32 : decode cL_far 32 = .ok (.iadd, 1) := by decide +kernel
theorem dL_far_33 : decode cL_far 33 = .ok (.ireturn, 1) := by decide +kernel
theorem dL_at_0 : decode cL_at 0 = .ok (.iconst 2, 1) := by decide +kernel
theorem dL_at_1 : decode cL_at 1 = .ok (.aload_n 0, 1) := by decide +kernel
theorem dL_at_2 : decode cL_at 2 = .ok (.iload_n 1, 1) := by decide +kernel
theorem dL_at_3 : decode cL_at 3 = .ok (.iload_n 2, 1) := by decide +kernel
theorem dL_at_4 : decode cL_at 4 = .ok (.iconst 0, 1) := by decide +kernel
theorem dL_at_5 : decode cL_at 5 = .ok (.invokevirtual 15, 3) := by decide +kernel
theorem dL_at_8 : decode cL_at 8 = .ok (.imul, 1) := by decide +kernel
theorem dL_at_9 : decode cL_at 9 = .ok (.aload_n 0, 1) := by decide +kernel
theorem dL_at_10 : decode cL_at 10 = .ok (.iload_n 1, 1) := by decide +kernel
theorem dL_at_11 : decode cL_at 11 = .ok (.iload_n 2, 1) := by decide +kernel
theorem dL_at_12 : decode cL_at 12 = .ok (.iconst 1, 1) := by decide +kernel
theorem dL_at_13 : decode cL_at 13 = .ok (.invokevirtual 15, 3) := by decide +kernel
theorem dL_at_16 : decode cL_at 16 = .ok (.iadd, 1) := by decide +kernel
theorem dL_at_17 : decode cL_at 17 = .ok (.ireturn, 1) := by decide +kernel
theorem dL_route_0 : decode cL_route 0 = .ok (.aload_n 0, 1) := by decide +kernel
theorem dL_route_1 : decode cL_route 1 = .ok (.iload_n 2, 1) := by decide +kernel
theorem dL_route_2 : decode cL_route 2 = .ok (.iconst 3, 1) := by decide +kernel
theorem dL_route_3 : decode cL_route 3 = .ok (.invokevirtual 21, 3) := by decide +kernel
theorem dL_route_6 : decode cL_route 6 = .ok (.istore_n 3, 1) := by decide +kernel
theorem dL_route_7 : decode cL_route 7 = .ok (.aload_n 0, 1) := by decide +kernel
theorem dL_route_8 : decode cL_route 8 = .ok (.iconst 4, 1) := by decide +kernel
theorem dL_route_9 : decode cL_route 9 = .ok (.invokevirtual 25, 3) := by decide +kernel
theorem dL_route_12 : decode cL_route 12 = .ok (.istore 4, 2) := by decide +kernel
theorem dL_route_14 : decode cL_route 14 = .ok (.iload_n 3, 1) := by decide +kernel
theorem dL_route_15 : decode cL_route 15 = .ok (.ifCond .ne 7, 3) := by decide +kernel
theorem dL_route_18 : decode cL_route 18 = .ok (.iconst 0, 1) := by decide +kernel
theorem dL_route_19 : decode cL_route 19 = .ok (.goto 34, 3) := by decide +kernel
theorem dL_route_22 : decode cL_route 22 = .ok (.aload_n 1, 1) := by decide +kernel
theorem dL_route_23 : decode cL_route 23 = .ok (.bipush 24, 2) := by decide +kernel
theorem dL_route_25 : decode cL_route 25 = .ok (.iload_n 2, 1) := by decide +kernel
theorem dL_route_26 : decode cL_route 26 = .ok (.iadd, 1) := by decide +kernel
theorem dL_route_27 : decode cL_route 27 = .ok (.aload_n 0, 1) := by decide +kernel
theorem dL_route_28 : decode cL_route 28 = .ok (.iload_n 2, 1) := by decide +kernel
theorem dL_route_29 : decode cL_route 29 = .ok (.iconst 0, 1) := by decide +kernel
theorem dL_route_30 : decode cL_route 30 = .ok (.invokestatic 28, 3) := by decide +kernel
theorem dL_route_33 : decode cL_route 33 = .ok (.invokestatic 32, 3) := by decide +kernel
theorem dL_route_36 : decode cL_route 36 = .ok (.aload_n 1, 1) := by decide +kernel
theorem dL_route_37 : decode cL_route 37 = .ok (.bipush 24, 2) := by decide +kernel
theorem dL_route_39 : decode cL_route 39 = .ok (.iload_n 2, 1) := by decide +kernel
theorem dL_route_40 : decode cL_route 40 = .ok (.iadd, 1) := by decide +kernel
theorem dL_route_41 : decode cL_route 41 = .ok (.aload_n 0, 1) := by decide +kernel
theorem dL_route_42 : decode cL_route 42 = .ok (.iload_n 2, 1) := by decide +kernel
theorem dL_route_43 : decode cL_route 43 = .ok (.iload_n 3, 1) := by decide +kernel
theorem dL_route_44 : decode cL_route 44 = .ok (.iconst 1, 1) := by decide +kernel
theorem dL_route_45 : decode cL_route 45 = .ok (.isub, 1) := by decide +kernel
theorem dL_route_46 : decode cL_route 46 = .ok (.invokestatic 28, 3) := by decide +kernel
theorem dL_route_49 : decode cL_route 49 = .ok (.invokestatic 32, 3) := by decide +kernel
theorem dL_route_52 : decode cL_route 52 = .ok (.iadd, 1) := by decide +kernel
theorem dL_route_53 : decode cL_route 53 = .ok (.istore 5, 2) := by decide +kernel
theorem dL_route_55 : decode cL_route 55 = .ok (.iconst 0, 1) := by decide +kernel
theorem dL_route_56 : decode cL_route 56 = .ok (.istore 6, 2) := by decide +kernel
theorem dL_route_58 : decode cL_route 58 = .ok (.iconst 0, 1) := by decide +kernel
theorem dL_route_59 : decode cL_route 59 = .ok (.istore 7, 2) := by decide +kernel
theorem dL_route_61 : decode cL_route 61 = .ok (.iconst 0, 1) := by decide +kernel
theorem dL_route_62 : decode cL_route 62 = .ok (.istore 8, 2) := by decide +kernel
theorem dL_route_64 : decode cL_route 64 = .ok (.iconst 0, 1) := by decide +kernel
theorem dL_route_65 : decode cL_route 65 = .ok (.istore 9, 2) := by decide +kernel
theorem dL_route_67 : decode cL_route 67 = .ok (.iload 9, 2) := by decide +kernel
theorem dL_route_69 : decode cL_route 69 = .ok (.iload_n 3, 1) := by decide +kernel
theorem dL_route_70 : decode cL_route 70 = .ok (.if_icmp .ge 656, 3) := by decide +kernel
theorem dL_route_73 : decode cL_route 73 = .ok (.aload_n 0, 1) := by decide +kernel
theorem dL_route_74 : decode cL_route 74 = .ok (.iload_n 2, 1) := by decide +kernel
theorem dL_route_75 : decode cL_route 75 = .ok (.iload 9, 2) := by decide +kernel
theorem dL_route_77 : decode cL_route 77 = .ok (.iconst 0, 1) := by decide +kernel
theorem dL_route_78 : decode cL_route 78 = .ok (.invokevirtual 15, 3) := by decide +kernel
theorem dL_route_81 : decode cL_route 81 = .ok (.istore 10, 2) := by decide +kernel
theorem dL_route_83 : decode cL_route 83 = .ok (.aload_n 0, 1) := by decide +kernel
theorem dL_route_84 : decode cL_route 84 = .ok (.iload_n 2, 1) := by decide +kernel
theorem dL_route_85 : decode cL_route 85 = .ok (.iload 9, 2) := by decide +kernel
theorem dL_route_87 : decode cL_route 87 = .ok (.iconst 1, 1) := by decide +kernel
theorem dL_route_88 : decode cL_route 88 = .ok (.invokevirtual 15, 3) := by decide +kernel
theorem dL_route_91 : decode cL_route 91 = .ok (.iconst 1, 1) := by decide +kernel
theorem dL_route_92 : decode cL_route 92 = .ok (.if_icmp .ne 7, 3) := by decide +kernel
theorem dL_route_95 : decode cL_route 95 = .ok (.iconst 1, 1) := by decide +kernel
theorem dL_route_96 : decode cL_route 96 = .ok (.goto 4, 3) := by decide +kernel
theorem dL_route_99 : decode cL_route 99 = .ok (.iconst 0, 1) := by decide +kernel
theorem dL_route_100 : decode cL_route 100 = .ok (.istore 11, 2) := by decide +kernel
theorem dL_route_102 : decode cL_route 102 = .ok (.aload_n 0, 1) := by decide +kernel
theorem dL_route_103 : decode cL_route 103 = .ok (.iload_n 2, 1) := by decide +kernel
theorem dL_route_104 : decode cL_route 104 = .ok (.iload 9, 2) := by decide +kernel
theorem dL_route_106 : decode cL_route 106 = .ok (.invokestatic 28, 3) := by decide +kernel
theorem dL_route_109 : decode cL_route 109 = .ok (.istore 12, 2) := by decide +kernel
theorem dL_route_111 : decode cL_route 111 = .ok (.aload_n 0, 1) := by decide +kernel
theorem dL_route_112 : decode cL_route 112 = .ok (.iload_n 2, 1) := by decide +kernel
theorem dL_route_113 : decode cL_route 113 = .ok (.iload 9, 2) := by decide +kernel
theorem dL_route_115 : decode cL_route 115 = .ok (.iconst 2, 1) := by decide +kernel
theorem dL_route_116 : decode cL_route 116 = .ok (.invokevirtual 15, 3) := by decide +kernel
theorem dL_route_119 : decode cL_route 119 = .ok (.istore 13, 2) := by decide +kernel
theorem dL_route_121 : decode cL_route 121 = .ok (.aload_n 0, 1) := by decide +kernel
theorem dL_route_122 : decode cL_route 122 = .ok (.iload_n 2, 1) := by decide +kernel
theorem dL_route_123 : decode cL_route 123 = .ok (.iload 9, 2) := by decide +kernel
theorem dL_route_125 : decode cL_route 125 = .ok (.iconst 3, 1) := by decide +kernel
theorem dL_route_126 : decode cL_route 126 = .ok (.invokevirtual 15, 3) := by decide +kernel
theorem dL_route_129 : decode cL_route 129 = .ok (.istore 14, 2) := by decide +kernel
theorem dL_route_131 : decode cL_route 131 = .ok (.iload 9, 2) := by decide +kernel
theorem dL_route_133 : decode cL_route 133 = .ok (.ifCond .ne 23, 3) := by decide +kernel
theorem dL_route_136 : decode cL_route 136 = .ok (.aload_n 0, 1) := by decide +kernel
theorem dL_route_137 : decode cL_route 137 = .ok (.iload_n 2, 1) := by decide +kernel
theorem dL_route_138 : decode cL_route 138 = .ok (.iconst 1, 1) := by decide +kernel
theorem dL_route_139 : decode cL_route 139 = .ok (.invokevirtual 21, 3) := by decide +kernel
theorem dL_route_142 : decode cL_route 142 = .ok (.aload_n 1, 1) := by decide +kernel
theorem dL_route_143 : decode cL_route 143 = .ok (.bipush 24, 2) := by decide +kernel
theorem dL_route_145 : decode cL_route 145 = .ok (.iload_n 2, 1) := by decide +kernel
theorem dL_route_146 : decode cL_route 146 = .ok (.iadd, 1) := by decide +kernel
theorem dL_route_147 : decode cL_route 147 = .ok (.iload 12, 2) := by decide +kernel
theorem dL_route_149 : decode cL_route 149 = .ok (.invokestatic 32, 3) := by decide +kernel
theorem dL_route_152 : decode cL_route 152 = .ok (.iadd, 1) := by decide +kernel
theorem dL_route_153 : decode cL_route 153 = .ok (.goto 32, 3) := by decide +kernel
theorem dL_route_156 : decode cL_route 156 = .ok (.aload_n 0, 1) := by decide +kernel
theorem dL_route_157 : decode cL_route 157 = .ok (.iload_n 2, 1) := by decide +kernel
theorem dL_route_158 : decode cL_route 158 = .ok (.iload 9, 2) := by decide +kernel
theorem dL_route_160 : decode cL_route 160 = .ok (.iconst 1, 1) := by decide +kernel
theorem dL_route_161 : decode cL_route 161 = .ok (.isub, 1) := by decide +kernel
theorem dL_route_162 : decode cL_route 162 = .ok (.iconst 2, 1) := by decide +kernel
theorem dL_route_163 : decode cL_route 163 = .ok (.invokevirtual 15, 3) := by decide +kernel
theorem dL_route_166 : decode cL_route 166 = .ok (.iload 4, 2) := by decide +kernel
theorem dL_route_168 : decode cL_route 168 = .ok (.iadd, 1) := by decide +kernel
theorem dL_route_169 : decode cL_route 169 = .ok (.aload_n 1, 1) := by decide +kernel
theorem dL_route_170 : decode cL_route 170 = .ok (.aload_n 0, 1) := by decide +kernel
theorem dL_route_171 : decode cL_route 171 = .ok (.iload_n 2, 1) := by decide +kernel
theorem dL_route_172 : decode cL_route 172 = .ok (.iload 9, 2) := by decide +kernel
theorem dL_route_174 : decode cL_route 174 = .ok (.iconst 1, 1) := by decide +kernel
theorem dL_route_175 : decode cL_route 175 = .ok (.isub, 1) := by decide +kernel
theorem dL_route_176 : decode cL_route 176 = .ok (.invokestatic 28, 3) := by decide +kernel
theorem dL_route_179 : decode cL_route 179 = .ok (.iload 12, 2) := by decide +kernel
theorem dL_route_181 : decode cL_route 181 = .ok (.invokestatic 32, 3) := by decide +kernel
theorem dL_route_184 : decode cL_route 184 = .ok (.iadd, 1) := by decide +kernel
theorem dL_route_185 : decode cL_route 185 = .ok (.istore 15, 2) := by decide +kernel
theorem dL_route_187 : decode cL_route 187 = .ok (.iload 9, 2) := by decide +kernel
theorem dL_route_189 : decode cL_route 189 = .ok (.iload_n 3, 1) := by decide +kernel
theorem dL_route_190 : decode cL_route 190 = .ok (.iconst 1, 1) := by decide +kernel
theorem dL_route_191 : decode cL_route 191 = .ok (.isub, 1) := by decide +kernel
theorem dL_route_192 : decode cL_route 192 = .ok (.if_icmp .ne 26, 3) := by decide +kernel
theorem dL_route_195 : decode cL_route 195 = .ok (.aload_n 0, 1) := by decide +kernel
theorem dL_route_196 : decode cL_route 196 = .ok (.iload_n 2, 1) := by decide +kernel
theorem dL_route_197 : decode cL_route 197 = .ok (.iconst 2, 1) := by decide +kernel
theorem dL_route_198 : decode cL_route 198 = .ok (.invokevirtual 21, 3) := by decide +kernel
theorem dL_route_201 : decode cL_route 201 = .ok (.iload 4, 2) := by decide +kernel
theorem dL_route_203 : decode cL_route 203 = .ok (.isub, 1) := by decide +kernel
theorem dL_route_204 : decode cL_route 204 = .ok (.aload_n 1, 1) := by decide +kernel
theorem dL_route_205 : decode cL_route 205 = .ok (.bipush 24, 2) := by decide +kernel
theorem dL_route_207 : decode cL_route 207 = .ok (.iload_n 2, 1) := by decide +kernel
theorem dL_route_208 : decode cL_route 208 = .ok (.iadd, 1) := by decide +kernel
theorem dL_route_209 : decode cL_route 209 = .ok (.iload 12, 2) := by decide +kernel
theorem dL_route_211 : decode cL_route 211 = .ok (.invokestatic 32, 3) := by decide +kernel
theorem dL_route_214 : decode cL_route 214 = .ok (.isub, 1) := by decide +kernel
theorem dL_route_215 : decode cL_route 215 = .ok (.goto 32, 3) := by decide +kernel
theorem dL_route_218 : decode cL_route 218 = .ok (.aload_n 0, 1) := by decide +kernel
theorem dL_route_219 : decode cL_route 219 = .ok (.iload_n 2, 1) := by decide +kernel
theorem dL_route_220 : decode cL_route 220 = .ok (.iload 9, 2) := by decide +kernel
theorem dL_route_222 : decode cL_route 222 = .ok (.iconst 1, 1) := by decide +kernel
theorem dL_route_223 : decode cL_route 223 = .ok (.iadd, 1) := by decide +kernel
theorem dL_route_224 : decode cL_route 224 = .ok (.iconst 3, 1) := by decide +kernel
theorem dL_route_225 : decode cL_route 225 = .ok (.invokevirtual 15, 3) := by decide +kernel
theorem dL_route_228 : decode cL_route 228 = .ok (.iload 4, 2) := by decide +kernel
theorem dL_route_230 : decode cL_route 230 = .ok (.isub, 1) := by decide +kernel
theorem dL_route_231 : decode cL_route 231 = .ok (.aload_n 1, 1) := by decide +kernel
theorem dL_route_232 : decode cL_route 232 = .ok (.iload 12, 2) := by decide +kernel
theorem dL_route_234 : decode cL_route 234 = .ok (.aload_n 0, 1) := by decide +kernel
theorem dL_route_235 : decode cL_route 235 = .ok (.iload_n 2, 1) := by decide +kernel
theorem dL_route_236 : decode cL_route 236 = .ok (.iload 9, 2) := by decide +kernel
theorem dL_route_238 : decode cL_route 238 = .ok (.iconst 1, 1) := by decide +kernel
theorem dL_route_239 : decode cL_route 239 = .ok (.iadd, 1) := by decide +kernel
theorem dL_route_240 : decode cL_route 240 = .ok (.invokestatic 28, 3) := by decide +kernel
theorem dL_route_243 : decode cL_route 243 = .ok (.invokestatic 32, 3) := by decide +kernel
theorem dL_route_246 : decode cL_route 246 = .ok (.isub, 1) := by decide +kernel
theorem dL_route_247 : decode cL_route 247 = .ok (.istore 16, 2) := by decide +kernel
theorem dL_route_249 : decode cL_route 249 = .ok (.aload_n 0, 1) := by decide +kernel
theorem dL_route_250 : decode cL_route 250 = .ok (.iload 10, 2) := by decide +kernel
theorem dL_route_252 : decode cL_route 252 = .ok (.iload 11, 2) := by decide +kernel
theorem dL_route_254 : decode cL_route 254 = .ok (.ifCond .eq 7, 3) := by decide +kernel
theorem dL_route_257 : decode cL_route 257 = .ok (.iconst 5, 1) := by decide +kernel
theorem dL_route_258 : decode cL_route 258 = .ok (.goto 4, 3) := by decide +kernel
theorem dL_route_261 : decode cL_route 261 = .ok (.iconst 3, 1) := by decide +kernel
theorem dL_route_262 : decode cL_route 262 = .ok (.invokevirtual 36, 3) := by decide +kernel
theorem dL_route_265 : decode cL_route 265 = .ok (.istore 17, 2) := by decide +kernel
theorem dL_route_267 : decode cL_route 267 = .ok (.aload_n 0, 1) := by decide +kernel
theorem dL_route_268 : decode cL_route 268 = .ok (.iload 10, 2) := by decide +kernel
theorem dL_route_270 : decode cL_route 270 = .ok (.iload 11, 2) := by decide +kernel
theorem dL_route_272 : decode cL_route 272 = .ok (.ifCond .eq 8, 3) := by decide +kernel
theorem dL_route_275 : decode cL_route 275 = .ok (.bipush 6, 2) := by decide +kernel
theorem dL_route_277 : decode cL_route 277 = .ok (.goto 4, 3) := by decide +kernel
theorem dL_route_280 : decode cL_route 280 = .ok (.iconst 4, 1) := by decide +kernel
theorem dL_route_281 : decode cL_route 281 = .ok (.invokevirtual 36, 3) := by decide +kernel
theorem dL_route_284 : decode cL_route 284 = .ok (.istore 18, 2) := by decide +kernel
theorem dL_route_286 : decode cL_route 286 = .ok (.iload 17, 2) := by decide +kernel
theorem dL_route_288 : decode cL_route 288 = .ok (.iload 15, 2) := by decide +kernel
theorem dL_route_290 : decode cL_route 290 = .ok (.if_icmp .le 8, 3) := by decide +kernel
theorem dL_route_293 : decode cL_route 293 = .ok (.iload 17, 2) := by decide +kernel
theorem dL_route_295 : decode cL_route 295 = .ok (.goto 5, 3) := by decide +kernel
theorem dL_route_298 : decode cL_route 298 = .ok (.iload 15, 2) := by decide +kernel
theorem dL_route_300 : decode cL_route 300 = .ok (.istore 19, 2) := by decide +kernel
theorem dL_route_302 : decode cL_route 302 = .ok (.iload 18, 2) := by decide +kernel
theorem dL_route_304 : decode cL_route 304 = .ok (.iload 16, 2) := by decide +kernel
theorem dL_route_306 : decode cL_route 306 = .ok (.if_icmp .ge 8, 3) := by decide +kernel
theorem dL_route_309 : decode cL_route 309 = .ok (.iload 18, 2) := by decide +kernel
theorem dL_route_311 : decode cL_route 311 = .ok (.goto 5, 3) := by decide +kernel
theorem dL_route_314 : decode cL_route 314 = .ok (.iload 16, 2) := by decide +kernel
theorem dL_route_316 : decode cL_route 316 = .ok (.istore 20, 2) := by decide +kernel
theorem dL_route_318 : decode cL_route 318 = .ok (.iconst 0, 1) := by decide +kernel
theorem dL_route_319 : decode cL_route 319 = .ok (.istore 21, 2) := by decide +kernel
theorem dL_route_321 : decode cL_route 321 = .ok (.aload_n 0, 1) := by decide +kernel
theorem dL_route_322 : decode cL_route 322 = .ok (.iload_n 2, 1) := by decide +kernel
theorem dL_route_323 : decode cL_route 323 = .ok (.iload 21, 2) := by decide +kernel
theorem dL_route_325 : decode cL_route 325 = .ok (.iconst 0, 1) := by decide +kernel
theorem dL_route_326 : decode cL_route 326 = .ok (.invokevirtual 15, 3) := by decide +kernel
theorem dL_route_329 : decode cL_route 329 = .ok (.iload 10, 2) := by decide +kernel
theorem dL_route_331 : decode cL_route 331 = .ok (.if_icmp .ne 25, 3) := by decide +kernel
theorem dL_route_334 : decode cL_route 334 = .ok (.aload_n 0, 1) := by decide +kernel
theorem dL_route_335 : decode cL_route 335 = .ok (.iload_n 2, 1) := by decide +kernel
theorem dL_route_336 : decode cL_route 336 = .ok (.iload 21, 2) := by decide +kernel
theorem dL_route_338 : decode cL_route 338 = .ok (.iconst 1, 1) := by decide +kernel
theorem dL_route_339 : decode cL_route 339 = .ok (.invokevirtual 15, 3) := by decide +kernel
theorem dL_route_342 : decode cL_route 342 = .ok (.iconst 1, 1) := by decide +kernel
theorem dL_route_343 : decode cL_route 343 = .ok (.if_icmp .ne 7, 3) := by decide +kernel
theorem dL_route_346 : decode cL_route 346 = .ok (.iconst 1, 1) := by decide +kernel
theorem dL_route_347 : decode cL_route 347 = .ok (.goto 4, 3) := by decide +kernel
theorem dL_route_350 : decode cL_route 350 = .ok (.iconst 0, 1) := by decide +kernel
theorem dL_route_351 : decode cL_route 351 = .ok (.iload 11, 2) := by decide +kernel
theorem dL_route_353 : decode cL_route 353 = .ok (.if_icmp .ne 9, 3) := by decide +kernel
theorem dL_route_356 : decode cL_route 356 = .ok (.iinc 21 1, 3) := by decide +kernel
theorem dL_route_359 : decode cL_route 359 = .ok (.goto (-38), 3) := by decide +kernel
theorem dL_route_362 : decode cL_route 362 = .ok (.iload 11, 2) := by decide +kernel
theorem dL_route_364 : decode cL_route 364 = .ok (.iload 21, 2) := by decide +kernel
theorem dL_route_366 : decode cL_route 366 = .ok (.iload 9, 2) := by decide +kernel
theorem dL_route_368 : decode cL_route 368 = .ok (.if_icmp .ge 7, 3) := by decide +kernel
theorem dL_route_371 : decode cL_route 371 = .ok (.iconst 1, 1) := by decide +kernel
theorem dL_route_372 : decode cL_route 372 = .ok (.goto 4, 3) := by decide +kernel
theorem dL_route_375 : decode cL_route 375 = .ok (.iconst 0, 1) := by decide +kernel
theorem dL_route_376 : decode cL_route 376 = .ok (.if_icmp .eq 5, 3) := by decide +kernel
theorem dL_route_379 : decode cL_route 379 = .ok (.iconst 0, 1) := by decide +kernel
theorem dL_route_380 : decode cL_route 380 = .ok (.ireturn, 1) := by decide +kernel
theorem dL_route_381 : decode cL_route 381 = .ok (.iload 11, 2) := by decide +kernel
theorem dL_route_383 : decode cL_route 383 = .ok (.ifCond .ne 43, 3) := by decide +kernel
theorem dL_route_386 : decode cL_route 386 = .ok (.aload_n 0, 1) := by decide +kernel
theorem dL_route_387 : decode cL_route 387 = .ok (.iload_n 2, 1) := by decide +kernel
theorem dL_route_388 : decode cL_route 388 = .ok (.iload 21, 2) := by decide +kernel
theorem dL_route_390 : decode cL_route 390 = .ok (.iconst 2, 1) := by decide +kernel
theorem dL_route_391 : decode cL_route 391 = .ok (.invokevirtual 15, 3) := by decide +kernel
theorem dL_route_394 : decode cL_route 394 = .ok (.aload_n 0, 1) := by decide +kernel
theorem dL_route_395 : decode cL_route 395 = .ok (.iload 10, 2) := by decide +kernel
theorem dL_route_397 : decode cL_route 397 = .ok (.iconst 2, 1) := by decide +kernel
theorem dL_route_398 : decode cL_route 398 = .ok (.invokevirtual 36, 3) := by decide +kernel
theorem dL_route_401 : decode cL_route 401 = .ok (.isub, 1) := by decide +kernel
theorem dL_route_402 : decode cL_route 402 = .ok (.iload 4, 2) := by decide +kernel
theorem dL_route_404 : decode cL_route 404 = .ok (.isub, 1) := by decide +kernel
theorem dL_route_405 : decode cL_route 405 = .ok (.istore 22, 2) := by decide +kernel
theorem dL_route_407 : decode cL_route 407 = .ok (.iload 22, 2) := by decide +kernel
theorem dL_route_409 : decode cL_route 409 = .ok (.iload 19, 2) := by decide +kernel
theorem dL_route_411 : decode cL_route 411 = .ok (.if_icmp .le 8, 3) := by decide +kernel
theorem dL_route_414 : decode cL_route 414 = .ok (.iload 22, 2) := by decide +kernel
theorem dL_route_416 : decode cL_route 416 = .ok (.goto 5, 3) := by decide +kernel
theorem dL_route_419 : decode cL_route 419 = .ok (.iload 19, 2) := by decide +kernel
theorem dL_route_421 : decode cL_route 421 = .ok (.istore 19, 2) := by decide +kernel
theorem dL_route_423 : decode cL_route 423 = .ok (.goto 40, 3) := by decide +kernel
theorem dL_route_426 : decode cL_route 426 = .ok (.aload_n 0, 1) := by decide +kernel
theorem dL_route_427 : decode cL_route 427 = .ok (.iload_n 2, 1) := by decide +kernel
theorem dL_route_428 : decode cL_route 428 = .ok (.iload 21, 2) := by decide +kernel
theorem dL_route_430 : decode cL_route 430 = .ok (.iconst 3, 1) := by decide +kernel
theorem dL_route_431 : decode cL_route 431 = .ok (.invokevirtual 15, 3) := by decide +kernel
theorem dL_route_434 : decode cL_route 434 = .ok (.iload 4, 2) := by decide +kernel
theorem dL_route_436 : decode cL_route 436 = .ok (.iadd, 1) := by decide +kernel
theorem dL_route_437 : decode cL_route 437 = .ok (.aload_n 0, 1) := by decide +kernel
theorem dL_route_438 : decode cL_route 438 = .ok (.iload 10, 2) := by decide +kernel
theorem dL_route_440 : decode cL_route 440 = .ok (.iconst 2, 1) := by decide +kernel
theorem dL_route_441 : decode cL_route 441 = .ok (.invokevirtual 36, 3) := by decide +kernel
theorem dL_route_444 : decode cL_route 444 = .ok (.iadd, 1) := by decide +kernel
theorem dL_route_445 : decode cL_route 445 = .ok (.istore 22, 2) := by decide +kernel
theorem dL_route_447 : decode cL_route 447 = .ok (.iload 22, 2) := by decide +kernel
theorem dL_route_449 : decode cL_route 449 = .ok (.iload 20, 2) := by decide +kernel
theorem dL_route_451 : decode cL_route 451 = .ok (.if_icmp .ge 8, 3) := by decide +kernel
theorem dL_route_454 : decode cL_route 454 = .ok (.iload 22, 2) := by decide +kernel
theorem dL_route_456 : decode cL_route 456 = .ok (.goto 5, 3) := by decide +kernel
theorem dL_route_459 : decode cL_route 459 = .ok (.iload 20, 2) := by decide +kernel
theorem dL_route_461 : decode cL_route 461 = .ok (.istore 20, 2) := by decide +kernel
theorem dL_route_463 : decode cL_route 463 = .ok (.iload 6, 2) := by decide +kernel
theorem dL_route_465 : decode cL_route 465 = .ok (.iload 11, 2) := by decide +kernel
theorem dL_route_467 : decode cL_route 467 = .ok (.ifCond .eq 14, 3) := by decide +kernel
theorem dL_route_470 : decode cL_route 470 = .ok (.aload_n 0, 1) := by decide +kernel
theorem dL_route_471 : decode cL_route 471 = .ok (.iload 10, 2) := by decide +kernel
theorem dL_route_473 : decode cL_route 473 = .ok (.iconst 1, 1) := by decide +kernel
theorem dL_route_474 : decode cL_route 474 = .ok (.invokevirtual 36, 3) := by decide +kernel
theorem dL_route_477 : decode cL_route 477 = .ok (.ineg, 1) := by decide +kernel
theorem dL_route_478 : decode cL_route 478 = .ok (.goto 10, 3) := by decide +kernel
theorem dL_route_481 : decode cL_route 481 = .ok (.aload_n 0, 1) := by decide +kernel
theorem dL_route_482 : decode cL_route 482 = .ok (.iload 10, 2) := by decide +kernel
theorem dL_route_484 : decode cL_route 484 = .ok (.iconst 1, 1) := by decide +kernel
theorem dL_route_485 : decode cL_route 485 = .ok (.invokevirtual 36, 3) := by decide +kernel
theorem dL_route_488 : decode cL_route 488 = .ok (.iadd, 1) := by decide +kernel
theorem dL_route_489 : decode cL_route 489 = .ok (.istore 6, 2) := by decide +kernel
theorem dL_route_491 : decode cL_route 491 = .ok (.iload 6, 2) := by decide +kernel
theorem dL_route_493 : decode cL_route 493 = .ok (.iload 7, 2) := by decide +kernel
theorem dL_route_495 : decode cL_route 495 = .ok (.if_icmp .le 8, 3) := by decide +kernel
theorem dL_route_498 : decode cL_route 498 = .ok (.iload 6, 2) := by decide +kernel
theorem dL_route_500 : decode cL_route 500 = .ok (.goto 5, 3) := by decide +kernel
theorem dL_route_503 : decode cL_route 503 = .ok (.iload 7, 2) := by decide +kernel
theorem dL_route_505 : decode cL_route 505 = .ok (.istore 7, 2) := by decide +kernel
theorem dL_route_507 : decode cL_route 507 = .ok (.iload 5, 2) := by decide +kernel
theorem dL_route_509 : decode cL_route 509 = .ok (.iload 9, 2) := by decide +kernel
theorem dL_route_511 : decode cL_route 511 = .ok (.ifCond .ne 7, 3) := by decide +kernel
theorem dL_route_514 : decode cL_route 514 = .ok (.iconst 0, 1) := by decide +kernel
theorem dL_route_515 : decode cL_route 515 = .ok (.goto 18, 3) := by decide +kernel
theorem dL_route_518 : decode cL_route 518 = .ok (.aload_n 1, 1) := by decide +kernel
theorem dL_route_519 : decode cL_route 519 = .ok (.aload_n 0, 1) := by decide +kernel
theorem dL_route_520 : decode cL_route 520 = .ok (.iload_n 2, 1) := by decide +kernel
theorem dL_route_521 : decode cL_route 521 = .ok (.iload 9, 2) := by decide +kernel
theorem dL_route_523 : decode cL_route 523 = .ok (.iconst 1, 1) := by decide +kernel
theorem dL_route_524 : decode cL_route 524 = .ok (.isub, 1) := by decide +kernel
theorem dL_route_525 : decode cL_route 525 = .ok (.invokestatic 28, 3) := by decide +kernel
theorem dL_route_528 : decode cL_route 528 = .ok (.iload 12, 2) := by decide +kernel
theorem dL_route_530 : decode cL_route 530 = .ok (.invokestatic 32, 3) := by decide +kernel
theorem dL_route_533 : decode cL_route 533 = .ok (.iadd, 1) := by decide +kernel
theorem dL_route_534 : decode cL_route 534 = .ok (.istore 5, 2) := by decide +kernel
theorem dL_route_536 : decode cL_route 536 = .ok (.iload 8, 2) := by decide +kernel
theorem dL_route_538 : decode cL_route 538 = .ok (.iconst 1, 1) := by decide +kernel
theorem dL_route_539 : decode cL_route 539 = .ok (.iload 10, 2) := by decide +kernel
theorem dL_route_541 : decode cL_route 541 = .ok (.ishl, 1) := by decide +kernel
theorem dL_route_542 : decode cL_route 542 = .ok (.ior, 1) := by decide +kernel
theorem dL_route_543 : decode cL_route 543 = .ok (.istore 8, 2) := by decide +kernel
theorem dL_route_545 : decode cL_route 545 = .ok (.iload 13, 2) := by decide +kernel
theorem dL_route_547 : decode cL_route 547 = .ok (.iload 19, 2) := by decide +kernel
theorem dL_route_549 : decode cL_route 549 = .ok (.if_icmp .ne 82, 3) := by decide +kernel
theorem dL_route_552 : decode cL_route 552 = .ok (.iload 14, 2) := by decide +kernel
theorem dL_route_554 : decode cL_route 554 = .ok (.iload 20, 2) := by decide +kernel
theorem dL_route_556 : decode cL_route 556 = .ok (.if_icmp .ne 75, 3) := by decide +kernel
theorem dL_route_559 : decode cL_route 559 = .ok (.iload 13, 2) := by decide +kernel
theorem dL_route_561 : decode cL_route 561 = .ok (.iload 14, 2) := by decide +kernel
theorem dL_route_563 : decode cL_route 563 = .ok (.if_icmp .gt 68, 3) := by decide +kernel
theorem dL_route_566 : decode cL_route 566 = .ok (.aload_n 0, 1) := by decide +kernel
theorem dL_route_567 : decode cL_route 567 = .ok (.iload_n 2, 1) := by decide +kernel
theorem dL_route_568 : decode cL_route 568 = .ok (.iload 9, 2) := by decide +kernel
theorem dL_route_570 : decode cL_route 570 = .ok (.iconst 5, 1) := by decide +kernel
theorem dL_route_571 : decode cL_route 571 = .ok (.invokevirtual 15, 3) := by decide +kernel
theorem dL_route_574 : decode cL_route 574 = .ok (.iload 13, 2) := by decide +kernel
theorem dL_route_576 : decode cL_route 576 = .ok (.iload 15, 2) := by decide +kernel
theorem dL_route_578 : decode cL_route 578 = .ok (.isub, 1) := by decide +kernel
theorem dL_route_579 : decode cL_route 579 = .ok (.if_icmp .ne 52, 3) := by decide +kernel
theorem dL_route_582 : decode cL_route 582 = .ok (.aload_n 0, 1) := by decide +kernel
theorem dL_route_583 : decode cL_route 583 = .ok (.iload_n 2, 1) := by decide +kernel
theorem dL_route_584 : decode cL_route 584 = .ok (.iload 9, 2) := by decide +kernel
theorem dL_route_586 : decode cL_route 586 = .ok (.iconst 5, 1) := by decide +kernel
theorem dL_route_587 : decode cL_route 587 = .ok (.invokevirtual 15, 3) := by decide +kernel
theorem dL_route_590 : decode cL_route 590 = .ok (.ifCond .lt 41, 3) := by decide +kernel
theorem dL_route_593 : decode cL_route 593 = .ok (.aload_n 0, 1) := by decide +kernel
theorem dL_route_594 : decode cL_route 594 = .ok (.iload_n 2, 1) := by decide +kernel
theorem dL_route_595 : decode cL_route 595 = .ok (.iload 9, 2) := by decide +kernel
theorem dL_route_597 : decode cL_route 597 = .ok (.iconst 4, 1) := by decide +kernel
theorem dL_route_598 : decode cL_route 598 = .ok (.invokevirtual 15, 3) := by decide +kernel
theorem dL_route_601 : decode cL_route 601 = .ok (.iload 6, 2) := by decide +kernel
theorem dL_route_603 : decode cL_route 603 = .ok (.if_icmp .ne 28, 3) := by decide +kernel
theorem dL_route_606 : decode cL_route 606 = .ok (.aload_n 0, 1) := by decide +kernel
theorem dL_route_607 : decode cL_route 607 = .ok (.iload 10, 2) := by decide +kernel
theorem dL_route_609 : decode cL_route 609 = .ok (.iconst 0, 1) := by decide +kernel
theorem dL_route_610 : decode cL_route 610 = .ok (.invokevirtual 36, 3) := by decide +kernel
theorem dL_route_613 : decode cL_route 613 = .ok (.iload_n 2, 1) := by decide +kernel
theorem dL_route_614 : decode cL_route 614 = .ok (.if_icmp .ne 17, 3) := by decide +kernel
theorem dL_route_617 : decode cL_route 617 = .ok (.iload 13, 2) := by decide +kernel
theorem dL_route_619 : decode cL_route 619 = .ok (.iload 18, 2) := by decide +kernel
theorem dL_route_621 : decode cL_route 621 = .ok (.if_icmp .gt 10, 3) := by decide +kernel
theorem dL_route_624 : decode cL_route 624 = .ok (.iload 14, 2) := by decide +kernel
theorem dL_route_626 : decode cL_route 626 = .ok (.iload 17, 2) := by decide +kernel
theorem dL_route_628 : decode cL_route 628 = .ok (.if_icmp .ge 5, 3) := by decide +kernel
theorem dL_route_631 : decode cL_route 631 = .ok (.iconst 0, 1) := by decide +kernel
theorem dL_route_632 : decode cL_route 632 = .ok (.ireturn, 1) := by decide +kernel
theorem dL_route_633 : decode cL_route 633 = .ok (.iload 11, 2) := by decide +kernel
theorem dL_route_635 : decode cL_route 635 = .ok (.ifCond .eq 85, 3) := by decide +kernel
theorem dL_route_638 : decode cL_route 638 = .ok (.iload 13, 2) := by decide +kernel
theorem dL_route_640 : decode cL_route 640 = .ok (.aload_n 0, 1) := by decide +kernel
theorem dL_route_641 : decode cL_route 641 = .ok (.iload_n 2, 1) := by decide +kernel
theorem dL_route_642 : decode cL_route 642 = .ok (.iload 21, 2) := by decide +kernel
theorem dL_route_644 : decode cL_route 644 = .ok (.iconst 2, 1) := by decide +kernel
theorem dL_route_645 : decode cL_route 645 = .ok (.invokevirtual 15, 3) := by decide +kernel
theorem dL_route_648 : decode cL_route 648 = .ok (.isub, 1) := by decide +kernel
theorem dL_route_649 : decode cL_route 649 = .ok (.iload 4, 2) := by decide +kernel
theorem dL_route_651 : decode cL_route 651 = .ok (.isub, 1) := by decide +kernel
theorem dL_route_652 : decode cL_route 652 = .ok (.istore 22, 2) := by decide +kernel
theorem dL_route_654 : decode cL_route 654 = .ok (.iload 14, 2) := by decide +kernel
theorem dL_route_656 : decode cL_route 656 = .ok (.aload_n 0, 1) := by decide +kernel
theorem dL_route_657 : decode cL_route 657 = .ok (.iload_n 2, 1) := by decide +kernel
theorem dL_route_658 : decode cL_route 658 = .ok (.iload 21, 2) := by decide +kernel
theorem dL_route_660 : decode cL_route 660 = .ok (.iconst 3, 1) := by decide +kernel
theorem dL_route_661 : decode cL_route 661 = .ok (.invokevirtual 15, 3) := by decide +kernel
theorem dL_route_664 : decode cL_route 664 = .ok (.isub, 1) := by decide +kernel
theorem dL_route_665 : decode cL_route 665 = .ok (.iload 4, 2) := by decide +kernel
theorem dL_route_667 : decode cL_route 667 = .ok (.isub, 1) := by decide +kernel
theorem dL_route_668 : decode cL_route 668 = .ok (.istore 23, 2) := by decide +kernel
theorem dL_route_670 : decode cL_route 670 = .ok (.aload_n 0, 1) := by decide +kernel
theorem dL_route_671 : decode cL_route 671 = .ok (.iload 10, 2) := by decide +kernel
theorem dL_route_673 : decode cL_route 673 = .ok (.iconst 0, 1) := by decide +kernel
theorem dL_route_674 : decode cL_route 674 = .ok (.invokevirtual 39, 3) := by decide +kernel
theorem dL_route_677 : decode cL_route 677 = .ok (.iload 22, 2) := by decide +kernel
theorem dL_route_679 : decode cL_route 679 = .ok (.if_icmp .ne 39, 3) := by decide +kernel
theorem dL_route_682 : decode cL_route 682 = .ok (.aload_n 0, 1) := by decide +kernel
theorem dL_route_683 : decode cL_route 683 = .ok (.iload 10, 2) := by decide +kernel
theorem dL_route_685 : decode cL_route 685 = .ok (.iconst 1, 1) := by decide +kernel
theorem dL_route_686 : decode cL_route 686 = .ok (.invokevirtual 39, 3) := by decide +kernel
theorem dL_route_689 : decode cL_route 689 = .ok (.iload 23, 2) := by decide +kernel
theorem dL_route_691 : decode cL_route 691 = .ok (.if_icmp .ne 27, 3) := by decide +kernel
theorem dL_route_694 : decode cL_route 694 = .ok (.iload 22, 2) := by decide +kernel
theorem dL_route_696 : decode cL_route 696 = .ok (.aload_n 0, 1) := by decide +kernel
theorem dL_route_697 : decode cL_route 697 = .ok (.iload 10, 2) := by decide +kernel
theorem dL_route_699 : decode cL_route 699 = .ok (.iconst 2, 1) := by decide +kernel
theorem dL_route_700 : decode cL_route 700 = .ok (.invokevirtual 36, 3) := by decide +kernel
theorem dL_route_703 : decode cL_route 703 = .ok (.if_icmp .gt 15, 3) := by decide +kernel
theorem dL_route_706 : decode cL_route 706 = .ok (.iload 23, 2) := by decide +kernel
theorem dL_route_708 : decode cL_route 708 = .ok (.aload_n 0, 1) := by decide +kernel
theorem dL_route_709 : decode cL_route 709 = .ok (.iload 10, 2) := by decide +kernel
theorem dL_route_711 : decode cL_route 711 = .ok (.iconst 2, 1) := by decide +kernel
theorem dL_route_712 : decode cL_route 712 = .ok (.invokevirtual 36, 3) := by decide +kernel
theorem dL_route_715 : decode cL_route 715 = .ok (.if_icmp .le 5, 3) := by decide +kernel
theorem dL_route_718 : decode cL_route 718 = .ok (.iconst 0, 1) := by decide +kernel
theorem dL_route_719 : decode cL_route 719 = .ok (.ireturn, 1) := by decide +kernel
theorem dL_route_720 : decode cL_route 720 = .ok (.iinc 9 1, 3) := by decide +kernel
theorem dL_route_723 : decode cL_route 723 = .ok (.goto (-656), 3) := by decide +kernel
theorem dL_route_726 : decode cL_route 726 = .ok (.iload_n 3, 1) := by decide +kernel
theorem dL_route_727 : decode cL_route 727 = .ok (.ifCond .ne 35, 3) := by decide +kernel
theorem dL_route_730 : decode cL_route 730 = .ok (.aload_n 0, 1) := by decide +kernel
theorem dL_route_731 : decode cL_route 731 = .ok (.iload_n 2, 1) := by decide +kernel
theorem dL_route_732 : decode cL_route 732 = .ok (.iconst 0, 1) := by decide +kernel
theorem dL_route_733 : decode cL_route 733 = .ok (.invokevirtual 43, 3) := by decide +kernel
theorem dL_route_736 : decode cL_route 736 = .ok (.sipush (-1007), 3) := by decide +kernel
theorem dL_route_739 : decode cL_route 739 = .ok (.if_icmp .ne 19, 3) := by decide +kernel
theorem dL_route_742 : decode cL_route 742 = .ok (.aload_n 0, 1) := by decide +kernel
theorem dL_route_743 : decode cL_route 743 = .ok (.iload_n 2, 1) := by decide +kernel
theorem dL_route_744 : decode cL_route 744 = .ok (.iconst 1, 1) := by decide +kernel
theorem dL_route_745 : decode cL_route 745 = .ok (.invokevirtual 43, 3) := by decide +kernel
theorem dL_route_748 : decode cL_route 748 = .ok (.sipush (-1007), 3) := by decide +kernel
theorem dL_route_751 : decode cL_route 751 = .ok (.if_icmp .ne 7, 3) := by decide +kernel
theorem dL_route_754 : decode cL_route 754 = .ok (.iconst 1, 1) := by decide +kernel
theorem dL_route_755 : decode cL_route 755 = .ok (.goto 111, 3) := by decide +kernel
theorem dL_route_758 : decode cL_route 758 = .ok (.iconst 0, 1) := by decide +kernel
theorem dL_route_759 : decode cL_route 759 = .ok (.goto 107, 3) := by decide +kernel
theorem dL_route_762 : decode cL_route 762 = .ok (.aload_n 0, 1) := by decide +kernel
theorem dL_route_763 : decode cL_route 763 = .ok (.iload_n 2, 1) := by decide +kernel
theorem dL_route_764 : decode cL_route 764 = .ok (.iconst 0, 1) := by decide +kernel
theorem dL_route_765 : decode cL_route 765 = .ok (.invokevirtual 43, 3) := by decide +kernel
theorem dL_route_768 : decode cL_route 768 = .ok (.aload_n 0, 1) := by decide +kernel
theorem dL_route_769 : decode cL_route 769 = .ok (.iload_n 2, 1) := by decide +kernel
theorem dL_route_770 : decode cL_route 770 = .ok (.iconst 0, 1) := by decide +kernel
theorem dL_route_771 : decode cL_route 771 = .ok (.iconst 3, 1) := by decide +kernel
theorem dL_route_772 : decode cL_route 772 = .ok (.invokevirtual 15, 3) := by decide +kernel
theorem dL_route_775 : decode cL_route 775 = .ok (.aload_n 1, 1) := by decide +kernel
theorem dL_route_776 : decode cL_route 776 = .ok (.bipush 24, 2) := by decide +kernel
theorem dL_route_778 : decode cL_route 778 = .ok (.iload_n 2, 1) := by decide +kernel
theorem dL_route_779 : decode cL_route 779 = .ok (.iadd, 1) := by decide +kernel
theorem dL_route_780 : decode cL_route 780 = .ok (.aload_n 0, 1) := by decide +kernel
theorem dL_route_781 : decode cL_route 781 = .ok (.iload_n 2, 1) := by decide +kernel
theorem dL_route_782 : decode cL_route 782 = .ok (.iconst 0, 1) := by decide +kernel
theorem dL_route_783 : decode cL_route 783 = .ok (.invokestatic 28, 3) := by decide +kernel
theorem dL_route_786 : decode cL_route 786 = .ok (.invokestatic 32, 3) := by decide +kernel
theorem dL_route_789 : decode cL_route 789 = .ok (.isub, 1) := by decide +kernel
theorem dL_route_790 : decode cL_route 790 = .ok (.if_icmp .ne 75, 3) := by decide +kernel
theorem dL_route_793 : decode cL_route 793 = .ok (.aload_n 0, 1) := by decide +kernel
theorem dL_route_794 : decode cL_route 794 = .ok (.iload_n 2, 1) := by decide +kernel
theorem dL_route_795 : decode cL_route 795 = .ok (.iconst 1, 1) := by decide +kernel
theorem dL_route_796 : decode cL_route 796 = .ok (.invokevirtual 43, 3) := by decide +kernel
theorem dL_route_799 : decode cL_route 799 = .ok (.aload_n 0, 1) := by decide +kernel
theorem dL_route_800 : decode cL_route 800 = .ok (.iload_n 2, 1) := by decide +kernel
theorem dL_route_801 : decode cL_route 801 = .ok (.iload_n 3, 1) := by decide +kernel
theorem dL_route_802 : decode cL_route 802 = .ok (.iconst 1, 1) := by decide +kernel
theorem dL_route_803 : decode cL_route 803 = .ok (.isub, 1) := by decide +kernel
theorem dL_route_804 : decode cL_route 804 = .ok (.iconst 2, 1) := by decide +kernel
theorem dL_route_805 : decode cL_route 805 = .ok (.invokevirtual 15, 3) := by decide +kernel
theorem dL_route_808 : decode cL_route 808 = .ok (.iload 4, 2) := by decide +kernel
theorem dL_route_810 : decode cL_route 810 = .ok (.iadd, 1) := by decide +kernel
theorem dL_route_811 : decode cL_route 811 = .ok (.aload_n 1, 1) := by decide +kernel
theorem dL_route_812 : decode cL_route 812 = .ok (.bipush 24, 2) := by decide +kernel
theorem dL_route_814 : decode cL_route 814 = .ok (.iload_n 2, 1) := by decide +kernel
theorem dL_route_815 : decode cL_route 815 = .ok (.iadd, 1) := by decide +kernel
theorem dL_route_816 : decode cL_route 816 = .ok (.aload_n 0, 1) := by decide +kernel
theorem dL_route_817 : decode cL_route 817 = .ok (.iload_n 2, 1) := by decide +kernel
theorem dL_route_818 : decode cL_route 818 = .ok (.iload_n 3, 1) := by decide +kernel
theorem dL_route_819 : decode cL_route 819 = .ok (.iconst 1, 1) := by decide +kernel
theorem dL_route_820 : decode cL_route 820 = .ok (.isub, 1) := by decide +kernel
theorem dL_route_821 : decode cL_route 821 = .ok (.invokestatic 28, 3) := by decide +kernel
theorem dL_route_824 : decode cL_route 824 = .ok (.invokestatic 32, 3) := by decide +kernel
theorem dL_route_827 : decode cL_route 827 = .ok (.iadd, 1) := by decide +kernel
theorem dL_route_828 : decode cL_route 828 = .ok (.if_icmp .ne 37, 3) := by decide +kernel
theorem dL_route_831 : decode cL_route 831 = .ok (.aload_n 0, 1) := by decide +kernel
theorem dL_route_832 : decode cL_route 832 = .ok (.iload_n 2, 1) := by decide +kernel
theorem dL_route_833 : decode cL_route 833 = .ok (.iconst 1, 1) := by decide +kernel
theorem dL_route_834 : decode cL_route 834 = .ok (.invokevirtual 43, 3) := by decide +kernel
theorem dL_route_837 : decode cL_route 837 = .ok (.aload_n 0, 1) := by decide +kernel
theorem dL_route_838 : decode cL_route 838 = .ok (.iload_n 2, 1) := by decide +kernel
theorem dL_route_839 : decode cL_route 839 = .ok (.iconst 2, 1) := by decide +kernel
theorem dL_route_840 : decode cL_route 840 = .ok (.invokevirtual 21, 3) := by decide +kernel
theorem dL_route_843 : decode cL_route 843 = .ok (.if_icmp .gt 22, 3) := by decide +kernel
theorem dL_route_846 : decode cL_route 846 = .ok (.aload_n 0, 1) := by decide +kernel
theorem dL_route_847 : decode cL_route 847 = .ok (.iload_n 2, 1) := by decide +kernel
theorem dL_route_848 : decode cL_route 848 = .ok (.iconst 0, 1) := by decide +kernel
theorem dL_route_849 : decode cL_route 849 = .ok (.invokevirtual 43, 3) := by decide +kernel
theorem dL_route_852 : decode cL_route 852 = .ok (.aload_n 0, 1) := by decide +kernel
theorem dL_route_853 : decode cL_route 853 = .ok (.iload_n 2, 1) := by decide +kernel
theorem dL_route_854 : decode cL_route 854 = .ok (.iconst 1, 1) := by decide +kernel
theorem dL_route_855 : decode cL_route 855 = .ok (.invokevirtual 21, 3) := by decide +kernel
theorem dL_route_858 : decode cL_route 858 = .ok (.if_icmp .lt 7, 3) := by decide +kernel
theorem dL_route_861 : decode cL_route 861 = .ok (.iconst 1, 1) := by decide +kernel
theorem dL_route_862 : decode cL_route 862 = .ok (.goto 4, 3) := by decide +kernel
theorem dL_route_865 : decode cL_route 865 = .ok (.iconst 0, 1) := by decide +kernel
theorem dL_route_866 : decode cL_route 866 = .ok (.istore 9, 2) := by decide +kernel
theorem dL_route_868 : decode cL_route 868 = .ok (.iload 9, 2) := by decide +kernel
theorem dL_route_870 : decode cL_route 870 = .ok (.ifCond .eq 70, 3) := by decide +kernel
theorem dL_route_873 : decode cL_route 873 = .ok (.iload 6, 2) := by decide +kernel
theorem dL_route_875 : decode cL_route 875 = .ok (.ifCond .ne 65, 3) := by decide +kernel
theorem dL_route_878 : decode cL_route 878 = .ok (.aload_n 0, 1) := by decide +kernel
theorem dL_route_879 : decode cL_route 879 = .ok (.iload_n 2, 1) := by decide +kernel
theorem dL_route_880 : decode cL_route 880 = .ok (.iconst 4, 1) := by decide +kernel
theorem dL_route_881 : decode cL_route 881 = .ok (.invokevirtual 21, 3) := by decide +kernel
theorem dL_route_884 : decode cL_route 884 = .ok (.iload 5, 2) := by decide +kernel
theorem dL_route_886 : decode cL_route 886 = .ok (.if_icmp .ne 54, 3) := by decide +kernel
theorem dL_route_889 : decode cL_route 889 = .ok (.aload_n 0, 1) := by decide +kernel
theorem dL_route_890 : decode cL_route 890 = .ok (.iload_n 2, 1) := by decide +kernel
theorem dL_route_891 : decode cL_route 891 = .ok (.iconst 5, 1) := by decide +kernel
theorem dL_route_892 : decode cL_route 892 = .ok (.invokevirtual 21, 3) := by decide +kernel
theorem dL_route_895 : decode cL_route 895 = .ok (.iload 7, 2) := by decide +kernel
theorem dL_route_897 : decode cL_route 897 = .ok (.if_icmp .ne 43, 3) := by decide +kernel
theorem dL_route_900 : decode cL_route 900 = .ok (.iload 7, 2) := by decide +kernel
theorem dL_route_902 : decode cL_route 902 = .ok (.aload_n 0, 1) := by decide +kernel
theorem dL_route_903 : decode cL_route 903 = .ok (.iload_n 2, 1) := by decide +kernel
theorem dL_route_904 : decode cL_route 904 = .ok (.iconst 0, 1) := by decide +kernel
theorem dL_route_905 : decode cL_route 905 = .ok (.invokevirtual 21, 3) := by decide +kernel
theorem dL_route_908 : decode cL_route 908 = .ok (.if_icmp .gt 32, 3) := by decide +kernel
theorem dL_route_911 : decode cL_route 911 = .ok (.aload_n 0, 1) := by decide +kernel
theorem dL_route_912 : decode cL_route 912 = .ok (.iload_n 2, 1) := by decide +kernel
theorem dL_route_913 : decode cL_route 913 = .ok (.bipush 6, 2) := by decide +kernel
theorem dL_route_915 : decode cL_route 915 = .ok (.invokevirtual 21, 3) := by decide +kernel
theorem dL_route_918 : decode cL_route 918 = .ok (.iload 8, 2) := by decide +kernel
theorem dL_route_920 : decode cL_route 920 = .ok (.if_icmp .ne 20, 3) := by decide +kernel
theorem dL_route_923 : decode cL_route 923 = .ok (.aload_n 0, 1) := by decide +kernel
theorem dL_route_924 : decode cL_route 924 = .ok (.iload_n 2, 1) := by decide +kernel
theorem dL_route_925 : decode cL_route 925 = .ok (.iload_n 3, 1) := by decide +kernel
theorem dL_route_926 : decode cL_route 926 = .ok (.iconst 0, 1) := by decide +kernel
theorem dL_route_927 : decode cL_route 927 = .ok (.invokevirtual 15, 3) := by decide +kernel
theorem dL_route_930 : decode cL_route 930 = .ok (.sipush (-1001), 3) := by decide +kernel
theorem dL_route_933 : decode cL_route 933 = .ok (.if_icmp .ne 7, 3) := by decide +kernel
theorem dL_route_936 : decode cL_route 936 = .ok (.iconst 1, 1) := by decide +kernel
theorem dL_route_937 : decode cL_route 937 = .ok (.goto 4, 3) := by decide +kernel
theorem dL_route_940 : decode cL_route 940 = .ok (.iconst 0, 1) := by decide +kernel
theorem dL_route_941 : decode cL_route 941 = .ok (.ireturn, 1) := by decide +kernel
theorem dL_plan_0 : decode cL_plan 0 = .ok (.iconst 0, 1) := by decide +kernel
theorem dL_plan_1 : decode cL_plan 1 = .ok (.istore_n 2, 1) := by decide +kernel
theorem dL_plan_2 : decode cL_plan 2 = .ok (.iconst 0, 1) := by decide +kernel
theorem dL_plan_3 : decode cL_plan 3 = .ok (.istore_n 3, 1) := by decide +kernel
theorem dL_plan_4 : decode cL_plan 4 = .ok (.iconst 0, 1) := by decide +kernel
theorem dL_plan_5 : decode cL_plan 5 = .ok (.istore 4, 2) := by decide +kernel
theorem dL_plan_7 : decode cL_plan 7 = .ok (.iload 4, 2) := by decide +kernel
theorem dL_plan_9 : decode cL_plan 9 = .ok (.aload_n 0, 1) := by decide +kernel
theorem dL_plan_10 : decode cL_plan 10 = .ok (.iconst 0, 1) := by decide +kernel
theorem dL_plan_11 : decode cL_plan 11 = .ok (.invokevirtual 25, 3) := by decide +kernel
theorem dL_plan_14 : decode cL_plan 14 = .ok (.if_icmp .ge 41, 3) := by decide +kernel
theorem dL_plan_17 : decode cL_plan 17 = .ok (.aload_n 0, 1) := by decide +kernel
theorem dL_plan_18 : decode cL_plan 18 = .ok (.aload_n 1, 1) := by decide +kernel
theorem dL_plan_19 : decode cL_plan 19 = .ok (.iload 4, 2) := by decide +kernel
theorem dL_plan_21 : decode cL_plan 21 = .ok (.invokestatic 46, 3) := by decide +kernel
theorem dL_plan_24 : decode cL_plan 24 = .ok (.ifCond .ne 5, 3) := by decide +kernel
theorem dL_plan_27 : decode cL_plan 27 = .ok (.iconst 0, 1) := by decide +kernel
theorem dL_plan_28 : decode cL_plan 28 = .ok (.ireturn, 1) := by decide +kernel
theorem dL_plan_29 : decode cL_plan 29 = .ok (.iload_n 2, 1) := by decide +kernel
theorem dL_plan_30 : decode cL_plan 30 = .ok (.aload_n 0, 1) := by decide +kernel
theorem dL_plan_31 : decode cL_plan 31 = .ok (.iload 4, 2) := by decide +kernel
theorem dL_plan_33 : decode cL_plan 33 = .ok (.iconst 4, 1) := by decide +kernel
theorem dL_plan_34 : decode cL_plan 34 = .ok (.invokevirtual 21, 3) := by decide +kernel
theorem dL_plan_37 : decode cL_plan 37 = .ok (.iadd, 1) := by decide +kernel
theorem dL_plan_38 : decode cL_plan 38 = .ok (.istore_n 2, 1) := by decide +kernel
theorem dL_plan_39 : decode cL_plan 39 = .ok (.iload_n 3, 1) := by decide +kernel
theorem dL_plan_40 : decode cL_plan 40 = .ok (.aload_n 0, 1) := by decide +kernel
theorem dL_plan_41 : decode cL_plan 41 = .ok (.iload 4, 2) := by decide +kernel
theorem dL_plan_43 : decode cL_plan 43 = .ok (.iconst 3, 1) := by decide +kernel
theorem dL_plan_44 : decode cL_plan 44 = .ok (.invokevirtual 21, 3) := by decide +kernel
theorem dL_plan_47 : decode cL_plan 47 = .ok (.iadd, 1) := by decide +kernel
theorem dL_plan_48 : decode cL_plan 48 = .ok (.istore_n 3, 1) := by decide +kernel
theorem dL_plan_49 : decode cL_plan 49 = .ok (.iinc 4 1, 3) := by decide +kernel
theorem dL_plan_52 : decode cL_plan 52 = .ok (.goto (-45), 3) := by decide +kernel
theorem dL_plan_55 : decode cL_plan 55 = .ok (.iconst 0, 1) := by decide +kernel
theorem dL_plan_56 : decode cL_plan 56 = .ok (.istore 4, 2) := by decide +kernel
theorem dL_plan_58 : decode cL_plan 58 = .ok (.iconst 0, 1) := by decide +kernel
theorem dL_plan_59 : decode cL_plan 59 = .ok (.istore 5, 2) := by decide +kernel
theorem dL_plan_61 : decode cL_plan 61 = .ok (.iload 5, 2) := by decide +kernel
theorem dL_plan_63 : decode cL_plan 63 = .ok (.aload_n 0, 1) := by decide +kernel
theorem dL_plan_64 : decode cL_plan 64 = .ok (.iconst 1, 1) := by decide +kernel
theorem dL_plan_65 : decode cL_plan 65 = .ok (.invokevirtual 25, 3) := by decide +kernel
theorem dL_plan_68 : decode cL_plan 68 = .ok (.if_icmp .ge 94, 3) := by decide +kernel
theorem dL_plan_71 : decode cL_plan 71 = .ok (.aload_n 0, 1) := by decide +kernel
theorem dL_plan_72 : decode cL_plan 72 = .ok (.iload 5, 2) := by decide +kernel
theorem dL_plan_74 : decode cL_plan 74 = .ok (.iconst 0, 1) := by decide +kernel
theorem dL_plan_75 : decode cL_plan 75 = .ok (.invokevirtual 36, 3) := by decide +kernel
theorem dL_plan_78 : decode cL_plan 78 = .ok (.sipush (-1007), 3) := by decide +kernel
theorem dL_plan_81 : decode cL_plan 81 = .ok (.if_icmp .ne 7, 3) := by decide +kernel
theorem dL_plan_84 : decode cL_plan 84 = .ok (.iconst 1, 1) := by decide +kernel
theorem dL_plan_85 : decode cL_plan 85 = .ok (.goto 4, 3) := by decide +kernel
theorem dL_plan_88 : decode cL_plan 88 = .ok (.iconst 0, 1) := by decide +kernel
theorem dL_plan_89 : decode cL_plan 89 = .ok (.istore 6, 2) := by decide +kernel
theorem dL_plan_91 : decode cL_plan 91 = .ok (.iload 4, 2) := by decide +kernel
theorem dL_plan_93 : decode cL_plan 93 = .ok (.iload 6, 2) := by decide +kernel
theorem dL_plan_95 : decode cL_plan 95 = .ok (.ifCond .eq 7, 3) := by decide +kernel
theorem dL_plan_98 : decode cL_plan 98 = .ok (.iconst 1, 1) := by decide +kernel
theorem dL_plan_99 : decode cL_plan 99 = .ok (.goto 4, 3) := by decide +kernel
theorem dL_plan_102 : decode cL_plan 102 = .ok (.iconst 0, 1) := by decide +kernel
theorem dL_plan_103 : decode cL_plan 103 = .ok (.iadd, 1) := by decide +kernel
theorem dL_plan_104 : decode cL_plan 104 = .ok (.istore 4, 2) := by decide +kernel
theorem dL_plan_106 : decode cL_plan 106 = .ok (.iload 6, 2) := by decide +kernel
theorem dL_plan_108 : decode cL_plan 108 = .ok (.aload_n 0, 1) := by decide +kernel
theorem dL_plan_109 : decode cL_plan 109 = .ok (.iload 5, 2) := by decide +kernel
theorem dL_plan_111 : decode cL_plan 111 = .ok (.iconst 0, 1) := by decide +kernel
theorem dL_plan_112 : decode cL_plan 112 = .ok (.invokevirtual 39, 3) := by decide +kernel
theorem dL_plan_115 : decode cL_plan 115 = .ok (.sipush (-1004), 3) := by decide +kernel
theorem dL_plan_118 : decode cL_plan 118 = .ok (.if_icmp .ne 7, 3) := by decide +kernel
theorem dL_plan_121 : decode cL_plan 121 = .ok (.iconst 1, 1) := by decide +kernel
theorem dL_plan_122 : decode cL_plan 122 = .ok (.goto 4, 3) := by decide +kernel
theorem dL_plan_125 : decode cL_plan 125 = .ok (.iconst 0, 1) := by decide +kernel
theorem dL_plan_126 : decode cL_plan 126 = .ok (.if_icmp .ne 28, 3) := by decide +kernel
theorem dL_plan_129 : decode cL_plan 129 = .ok (.aload_n 0, 1) := by decide +kernel
theorem dL_plan_130 : decode cL_plan 130 = .ok (.iload 5, 2) := by decide +kernel
theorem dL_plan_132 : decode cL_plan 132 = .ok (.bipush 7, 2) := by decide +kernel
theorem dL_plan_134 : decode cL_plan 134 = .ok (.invokevirtual 36, 3) := by decide +kernel
theorem dL_plan_137 : decode cL_plan 137 = .ok (.aload_n 1, 1) := by decide +kernel
theorem dL_plan_138 : decode cL_plan 138 = .ok (.iconst 2, 1) := by decide +kernel
theorem dL_plan_139 : decode cL_plan 139 = .ok (.iload 5, 2) := by decide +kernel
theorem dL_plan_141 : decode cL_plan 141 = .ok (.imul, 1) := by decide +kernel
theorem dL_plan_142 : decode cL_plan 142 = .ok (.iconst 2, 1) := by decide +kernel
theorem dL_plan_143 : decode cL_plan 143 = .ok (.iload 5, 2) := by decide +kernel
theorem dL_plan_145 : decode cL_plan 145 = .ok (.imul, 1) := by decide +kernel
theorem dL_plan_146 : decode cL_plan 146 = .ok (.iconst 1, 1) := by decide +kernel
theorem dL_plan_147 : decode cL_plan 147 = .ok (.iadd, 1) := by decide +kernel
theorem dL_plan_148 : decode cL_plan 148 = .ok (.invokestatic 32, 3) := by decide +kernel
theorem dL_plan_151 : decode cL_plan 151 = .ok (.if_icmp .eq 5, 3) := by decide +kernel
theorem dL_plan_154 : decode cL_plan 154 = .ok (.iconst 0, 1) := by decide +kernel
theorem dL_plan_155 : decode cL_plan 155 = .ok (.ireturn, 1) := by decide +kernel
theorem dL_plan_156 : decode cL_plan 156 = .ok (.iinc 5 1, 3) := by decide +kernel
theorem dL_plan_159 : decode cL_plan 159 = .ok (.goto (-98), 3) := by decide +kernel
theorem dL_plan_162 : decode cL_plan 162 = .ok (.aload_n 0, 1) := by decide +kernel
theorem dL_plan_163 : decode cL_plan 163 = .ok (.iconst 3, 1) := by decide +kernel
theorem dL_plan_164 : decode cL_plan 164 = .ok (.invokevirtual 25, 3) := by decide +kernel
theorem dL_plan_167 : decode cL_plan 167 = .ok (.iload_n 2, 1) := by decide +kernel
theorem dL_plan_168 : decode cL_plan 168 = .ok (.if_icmp .ne 31, 3) := by decide +kernel
theorem dL_plan_171 : decode cL_plan 171 = .ok (.aload_n 0, 1) := by decide +kernel
theorem dL_plan_172 : decode cL_plan 172 = .ok (.iconst 2, 1) := by decide +kernel
theorem dL_plan_173 : decode cL_plan 173 = .ok (.invokevirtual 25, 3) := by decide +kernel
theorem dL_plan_176 : decode cL_plan 176 = .ok (.iload 4, 2) := by decide +kernel
theorem dL_plan_178 : decode cL_plan 178 = .ok (.if_icmp .ne 21, 3) := by decide +kernel
theorem dL_plan_181 : decode cL_plan 181 = .ok (.iload_n 3, 1) := by decide +kernel
theorem dL_plan_182 : decode cL_plan 182 = .ok (.iconst 2, 1) := by decide +kernel
theorem dL_plan_183 : decode cL_plan 183 = .ok (.aload_n 0, 1) := by decide +kernel
theorem dL_plan_184 : decode cL_plan 184 = .ok (.iconst 1, 1) := by decide +kernel
theorem dL_plan_185 : decode cL_plan 185 = .ok (.invokevirtual 25, 3) := by decide +kernel
theorem dL_plan_188 : decode cL_plan 188 = .ok (.iload 4, 2) := by decide +kernel
theorem dL_plan_190 : decode cL_plan 190 = .ok (.isub, 1) := by decide +kernel
theorem dL_plan_191 : decode cL_plan 191 = .ok (.imul, 1) := by decide +kernel
theorem dL_plan_192 : decode cL_plan 192 = .ok (.if_icmp .ne 7, 3) := by decide +kernel
theorem dL_plan_195 : decode cL_plan 195 = .ok (.iconst 1, 1) := by decide +kernel
theorem dL_plan_196 : decode cL_plan 196 = .ok (.goto 4, 3) := by decide +kernel
theorem dL_plan_199 : decode cL_plan 199 = .ok (.iconst 0, 1) := by decide +kernel
theorem dL_plan_200 : decode cL_plan 200 = .ok (.ireturn, 1) := by decide +kernel
theorem dL_best_0 : decode cL_best 0 = .ok (.aload_n 0, 1) := by decide +kernel
theorem dL_best_1 : decode cL_best 1 = .ok (.iload_n 2, 1) := by decide +kernel
theorem dL_best_2 : decode cL_best 2 = .ok (.iconst 3, 1) := by decide +kernel
theorem dL_best_3 : decode cL_best 3 = .ok (.invokevirtual 21, 3) := by decide +kernel
theorem dL_best_6 : decode cL_best 6 = .ok (.istore_n 3, 1) := by decide +kernel
theorem dL_best_7 : decode cL_best 7 = .ok (.ldc 50, 2) := by decide +kernel
theorem dL_best_9 : decode cL_best 9 = .ok (.istore 4, 2) := by decide +kernel
theorem dL_best_11 : decode cL_best 11 = .ok (.sipush (-1007), 3) := by decide +kernel
theorem dL_best_14 : decode cL_best 14 = .ok (.istore 5, 2) := by decide +kernel
theorem dL_best_16 : decode cL_best 16 = .ok (.iconst 0, 1) := by decide +kernel
theorem dL_best_17 : decode cL_best 17 = .ok (.istore 6, 2) := by decide +kernel
theorem dL_best_19 : decode cL_best 19 = .ok (.iload 6, 2) := by decide +kernel
theorem dL_best_21 : decode cL_best 21 = .ok (.iload_n 3, 1) := by decide +kernel
theorem dL_best_22 : decode cL_best 22 = .ok (.if_icmp .gt 82, 3) := by decide +kernel
theorem dL_best_25 : decode cL_best 25 = .ok (.iload 6, 2) := by decide +kernel
theorem dL_best_27 : decode cL_best 27 = .ok (.iconst 1, 1) := by decide +kernel
theorem dL_best_28 : decode cL_best 28 = .ok (.iadd, 1) := by decide +kernel
theorem dL_best_29 : decode cL_best 29 = .ok (.istore 7, 2) := by decide +kernel
theorem dL_best_31 : decode cL_best 31 = .ok (.iload 7, 2) := by decide +kernel
theorem dL_best_33 : decode cL_best 33 = .ok (.iload_n 3, 1) := by decide +kernel
theorem dL_best_34 : decode cL_best 34 = .ok (.iconst 1, 1) := by decide +kernel
theorem dL_best_35 : decode cL_best 35 = .ok (.iadd, 1) := by decide +kernel
theorem dL_best_36 : decode cL_best 36 = .ok (.if_icmp .gt 62, 3) := by decide +kernel
theorem dL_best_39 : decode cL_best 39 = .ok (.aload_n 0, 1) := by decide +kernel
theorem dL_best_40 : decode cL_best 40 = .ok (.iload_n 1, 1) := by decide +kernel
theorem dL_best_41 : decode cL_best 41 = .ok (.iload_n 2, 1) := by decide +kernel
theorem dL_best_42 : decode cL_best 42 = .ok (.iload 6, 2) := by decide +kernel
theorem dL_best_44 : decode cL_best 44 = .ok (.iload 7, 2) := by decide +kernel
theorem dL_best_46 : decode cL_best 46 = .ok (.invokevirtual 51, 3) := by decide +kernel
theorem dL_best_49 : decode cL_best 49 = .ok (.istore 8, 2) := by decide +kernel
theorem dL_best_51 : decode cL_best 51 = .ok (.iload 8, 2) := by decide +kernel
theorem dL_best_53 : decode cL_best 53 = .ok (.ifCond .ge 13, 3) := by decide +kernel
theorem dL_best_56 : decode cL_best 56 = .ok (.iload 8, 2) := by decide +kernel
theorem dL_best_58 : decode cL_best 58 = .ok (.sipush (-1005), 3) := by decide +kernel
theorem dL_best_61 : decode cL_best 61 = .ok (.if_icmp .eq 5, 3) := by decide +kernel
theorem dL_best_64 : decode cL_best 64 = .ok (.iconst (-1), 1) := by decide +kernel
theorem dL_best_65 : decode cL_best 65 = .ok (.ireturn, 1) := by decide +kernel
theorem dL_best_66 : decode cL_best 66 = .ok (.iload 8, 2) := by decide +kernel
theorem dL_best_68 : decode cL_best 68 = .ok (.ifCond .lt 24, 3) := by decide +kernel
theorem dL_best_71 : decode cL_best 71 = .ok (.iload 8, 2) := by decide +kernel
theorem dL_best_73 : decode cL_best 73 = .ok (.iload 4, 2) := by decide +kernel
theorem dL_best_75 : decode cL_best 75 = .ok (.if_icmp .ge 17, 3) := by decide +kernel
theorem dL_best_78 : decode cL_best 78 = .ok (.iload 8, 2) := by decide +kernel
theorem dL_best_80 : decode cL_best 80 = .ok (.istore 4, 2) := by decide +kernel
theorem dL_best_82 : decode cL_best 82 = .ok (.bipush 100, 2) := by decide +kernel
theorem dL_best_84 : decode cL_best 84 = .ok (.iload 6, 2) := by decide +kernel
theorem dL_best_86 : decode cL_best 86 = .ok (.imul, 1) := by decide +kernel
theorem dL_best_87 : decode cL_best 87 = .ok (.iload 7, 2) := by decide +kernel
theorem dL_best_89 : decode cL_best 89 = .ok (.iadd, 1) := by decide +kernel
theorem dL_best_90 : decode cL_best 90 = .ok (.istore 5, 2) := by decide +kernel
theorem dL_best_92 : decode cL_best 92 = .ok (.iinc 7 1, 3) := by decide +kernel
theorem dL_best_95 : decode cL_best 95 = .ok (.goto (-64), 3) := by decide +kernel
theorem dL_best_98 : decode cL_best 98 = .ok (.iinc 6 1, 3) := by decide +kernel
theorem dL_best_101 : decode cL_best 101 = .ok (.goto (-82), 3) := by decide +kernel
theorem dL_best_104 : decode cL_best 104 = .ok (.aload_n 0, 1) := by decide +kernel
theorem dL_best_105 : decode cL_best 105 = .ok (.iload_n 1, 1) := by decide +kernel
theorem dL_best_106 : decode cL_best 106 = .ok (.iload_n 2, 1) := by decide +kernel
theorem dL_best_107 : decode cL_best 107 = .ok (.invokevirtual 55, 3) := by decide +kernel
theorem dL_best_110 : decode cL_best 110 = .ok (.iload 5, 2) := by decide +kernel
theorem dL_best_112 : decode cL_best 112 = .ok (.if_icmp .ne 40, 3) := by decide +kernel
theorem dL_best_115 : decode cL_best 115 = .ok (.aload_n 0, 1) := by decide +kernel
theorem dL_best_116 : decode cL_best 116 = .ok (.iload_n 1, 1) := by decide +kernel
theorem dL_best_117 : decode cL_best 117 = .ok (.iload_n 2, 1) := by decide +kernel
theorem dL_best_118 : decode cL_best 118 = .ok (.iload_n 3, 1) := by decide +kernel
theorem dL_best_119 : decode cL_best 119 = .ok (.iconst 1, 1) := by decide +kernel
theorem dL_best_120 : decode cL_best 120 = .ok (.iadd, 1) := by decide +kernel
theorem dL_best_121 : decode cL_best 121 = .ok (.iload_n 3, 1) := by decide +kernel
theorem dL_best_122 : decode cL_best 122 = .ok (.iconst 2, 1) := by decide +kernel
theorem dL_best_123 : decode cL_best 123 = .ok (.iadd, 1) := by decide +kernel
theorem dL_best_124 : decode cL_best 124 = .ok (.invokevirtual 51, 3) := by decide +kernel
theorem dL_best_127 : decode cL_best 127 = .ok (.sipush (-1002), 3) := by decide +kernel
theorem dL_best_130 : decode cL_best 130 = .ok (.if_icmp .ne 22, 3) := by decide +kernel
theorem dL_best_133 : decode cL_best 133 = .ok (.aload_n 0, 1) := by decide +kernel
theorem dL_best_134 : decode cL_best 134 = .ok (.iload_n 1, 1) := by decide +kernel
theorem dL_best_135 : decode cL_best 135 = .ok (.iload_n 2, 1) := by decide +kernel
theorem dL_best_136 : decode cL_best 136 = .ok (.iconst 0, 1) := by decide +kernel
theorem dL_best_137 : decode cL_best 137 = .ok (.iconst 0, 1) := by decide +kernel
theorem dL_best_138 : decode cL_best 138 = .ok (.invokevirtual 51, 3) := by decide +kernel
theorem dL_best_141 : decode cL_best 141 = .ok (.sipush (-1002), 3) := by decide +kernel
theorem dL_best_144 : decode cL_best 144 = .ok (.if_icmp .ne 8, 3) := by decide +kernel
theorem dL_best_147 : decode cL_best 147 = .ok (.iload 4, 2) := by decide +kernel
theorem dL_best_149 : decode cL_best 149 = .ok (.goto 4, 3) := by decide +kernel
theorem dL_best_152 : decode cL_best 152 = .ok (.iconst (-1), 1) := by decide +kernel
theorem dL_best_153 : decode cL_best 153 = .ok (.ireturn, 1) := by decide +kernel
theorem dL_print_0 : decode cL_print 0 = .ok (.lconst 1, 1) := by decide +kernel
theorem dL_print_1 : decode cL_print 1 = .ok (.lstore_n 1, 1) := by decide +kernel
theorem dL_print_2 : decode cL_print 2 = .ok (.iconst 0, 1) := by decide +kernel
theorem dL_print_3 : decode cL_print 3 = .ok (.istore_n 3, 1) := by decide +kernel
theorem dL_print_4 : decode cL_print 4 = .ok (.iload_n 3, 1) := by decide +kernel
theorem dL_print_5 : decode cL_print 5 = .ok (.aload_n 0, 1) := by decide +kernel
theorem dL_print_6 : decode cL_print 6 = .ok (.iconst 0, 1) := by decide +kernel
theorem dL_print_7 : decode cL_print 7 = .ok (.invokevirtual 25, 3) := by decide +kernel
theorem dL_print_10 : decode cL_print 10 = .ok (.if_icmp .ge 69, 3) := by decide +kernel
theorem dL_print_13 : decode cL_print 13 = .ok (.ldc2_w 58, 3) := by decide +kernel
theorem dL_print_16 : decode cL_print 16 = .ok (.lload_n 1, 1) := by decide +kernel
theorem dL_print_17 : decode cL_print 17 = .ok (.lmul, 1) := by decide +kernel
theorem dL_print_18 : decode cL_print 18 = .ok (.ldc2_w 60, 3) := by decide +kernel
theorem dL_print_21 : decode cL_print 21 = .ok (.ladd, 1) := by decide +kernel
theorem dL_print_22 : decode cL_print 22 = .ok (.lstore_n 1, 1) := by decide +kernel
theorem dL_print_23 : decode cL_print 23 = .ok (.iconst 0, 1) := by decide +kernel
theorem dL_print_24 : decode cL_print 24 = .ok (.istore 4, 2) := by decide +kernel
theorem dL_print_26 : decode cL_print 26 = .ok (.iload 4, 2) := by decide +kernel
theorem dL_print_28 : decode cL_print 28 = .ok (.aload_n 0, 1) := by decide +kernel
theorem dL_print_29 : decode cL_print 29 = .ok (.iload_n 3, 1) := by decide +kernel
theorem dL_print_30 : decode cL_print 30 = .ok (.iconst 3, 1) := by decide +kernel
theorem dL_print_31 : decode cL_print 31 = .ok (.invokevirtual 21, 3) := by decide +kernel
theorem dL_print_34 : decode cL_print 34 = .ok (.if_icmp .ge 39, 3) := by decide +kernel
theorem dL_print_37 : decode cL_print 37 = .ok (.ldc2_w 62, 3) := by decide +kernel
theorem dL_print_40 : decode cL_print 40 = .ok (.lload_n 1, 1) := by decide +kernel
theorem dL_print_41 : decode cL_print 41 = .ok (.lmul, 1) := by decide +kernel
theorem dL_print_42 : decode cL_print 42 = .ok (.ldc2_w 64, 3) := by decide +kernel
theorem dL_print_45 : decode cL_print 45 = .ok (.aload_n 0, 1) := by decide +kernel
theorem dL_print_46 : decode cL_print 46 = .ok (.iload_n 3, 1) := by decide +kernel
theorem dL_print_47 : decode cL_print 47 = .ok (.iload 4, 2) := by decide +kernel
theorem dL_print_49 : decode cL_print 49 = .ok (.iconst 0, 1) := by decide +kernel
theorem dL_print_50 : decode cL_print 50 = .ok (.invokevirtual 15, 3) := by decide +kernel
theorem dL_print_53 : decode cL_print 53 = .ok (.i2l, 1) := by decide +kernel
theorem dL_print_54 : decode cL_print 54 = .ok (.lmul, 1) := by decide +kernel
theorem dL_print_55 : decode cL_print 55 = .ok (.ladd, 1) := by decide +kernel
theorem dL_print_56 : decode cL_print 56 = .ok (.aload_n 0, 1) := by decide +kernel
theorem dL_print_57 : decode cL_print 57 = .ok (.iload_n 3, 1) := by decide +kernel
theorem dL_print_58 : decode cL_print 58 = .ok (.iload 4, 2) := by decide +kernel
theorem dL_print_60 : decode cL_print 60 = .ok (.iconst 1, 1) := by decide +kernel
theorem dL_print_61 : decode cL_print 61 = .ok (.invokevirtual 15, 3) := by decide +kernel
theorem dL_print_64 : decode cL_print 64 = .ok (.i2l, 1) := by decide +kernel
theorem dL_print_65 : decode cL_print 65 = .ok (.ladd, 1) := by decide +kernel
theorem dL_print_66 : decode cL_print 66 = .ok (.lstore_n 1, 1) := by decide +kernel
theorem dL_print_67 : decode cL_print 67 = .ok (.iinc 4 1, 3) := by decide +kernel
theorem dL_print_70 : decode cL_print 70 = .ok (.goto (-44), 3) := by decide +kernel
theorem dL_print_73 : decode cL_print 73 = .ok (.iinc 3 1, 3) := by decide +kernel
theorem dL_print_76 : decode cL_print 76 = .ok (.goto (-72), 3) := by decide +kernel
theorem dL_print_79 : decode cL_print 79 = .ok (.lload_n 1, 1) := by decide +kernel
theorem dL_print_80 : decode cL_print 80 = .ok (.lreturn, 1) := by decide +kernel
theorem dL_puts_0 : decode cL_puts 0 = .ok (.aload_n 0, 1) := by decide +kernel
theorem dL_puts_1 : decode cL_puts 1 = .ok (.iconst 0, 1) := by decide +kernel
theorem dL_puts_2 : decode cL_puts 2 = .ok (.invokevirtual 25, 3) := by decide +kernel
theorem dL_puts_5 : decode cL_puts 5 = .ok (.istore_n 3, 1) := by decide +kernel
theorem dL_puts_6 : decode cL_puts 6 = .ok (.iload_n 2, 1) := by decide +kernel
theorem dL_puts_7 : decode cL_puts 7 = .ok (.iload_n 3, 1) := by decide +kernel
theorem dL_puts_8 : decode cL_puts 8 = .ok (.invokestatic 66, 3) := by decide +kernel
theorem dL_puts_11 : decode cL_puts 11 = .ok (.istore 4, 2) := by decide +kernel
theorem dL_puts_13 : decode cL_puts 13 = .ok (.aload_n 0, 1) := by decide +kernel
theorem dL_puts_14 : decode cL_puts 14 = .ok (.iconst 3, 1) := by decide +kernel
theorem dL_puts_15 : decode cL_puts 15 = .ok (.invokevirtual 25, 3) := by decide +kernel
theorem dL_puts_18 : decode cL_puts 18 = .ok (.istore 5, 2) := by decide +kernel
theorem dL_puts_20 : decode cL_puts 20 = .ok (.iconst 4, 1) := by decide +kernel
theorem dL_puts_21 : decode cL_puts 21 = .ok (.newarray .int, 2) := by decide +kernel
theorem dL_puts_23 : decode cL_puts 23 = .ok (.astore 6, 2) := by decide +kernel
theorem dL_puts_25 : decode cL_puts 25 = .ok (.ldc 50, 2) := by decide +kernel
theorem dL_puts_27 : decode cL_puts 27 = .ok (.istore 7, 2) := by decide +kernel
theorem dL_puts_29 : decode cL_puts 29 = .ok (.iconst (-1), 1) := by decide +kernel
theorem dL_puts_30 : decode cL_puts 30 = .ok (.istore 8, 2) := by decide +kernel
theorem dL_puts_32 : decode cL_puts 32 = .ok (.iconst 0, 1) := by decide +kernel
theorem dL_puts_33 : decode cL_puts 33 = .ok (.istore 9, 2) := by decide +kernel
theorem dL_puts_35 : decode cL_puts 35 = .ok (.iload 9, 2) := by decide +kernel
theorem dL_puts_37 : decode cL_puts 37 = .ok (.iload_n 3, 1) := by decide +kernel
theorem dL_puts_38 : decode cL_puts 38 = .ok (.if_icmp .ge 72, 3) := by decide +kernel
theorem dL_puts_41 : decode cL_puts 41 = .ok (.aload 6, 2) := by decide +kernel
theorem dL_puts_43 : decode cL_puts 43 = .ok (.iload 9, 2) := by decide +kernel
theorem dL_puts_45 : decode cL_puts 45 = .ok (.aload_n 0, 1) := by decide +kernel
theorem dL_puts_46 : decode cL_puts 46 = .ok (.iload_n 1, 1) := by decide +kernel
theorem dL_puts_47 : decode cL_puts 47 = .ok (.iload 9, 2) := by decide +kernel
theorem dL_puts_49 : decode cL_puts 49 = .ok (.invokestatic 69, 3) := by decide +kernel
theorem dL_puts_52 : decode cL_puts 52 = .ok (.iastore, 1) := by decide +kernel
theorem dL_puts_53 : decode cL_puts 53 = .ok (.aload 6, 2) := by decide +kernel
theorem dL_puts_55 : decode cL_puts 55 = .ok (.iload 9, 2) := by decide +kernel
theorem dL_puts_57 : decode cL_puts 57 = .ok (.iaload, 1) := by decide +kernel
theorem dL_puts_58 : decode cL_puts 58 = .ok (.ifCond .ge 5, 3) := by decide +kernel
theorem dL_puts_61 : decode cL_puts 61 = .ok (.iconst 0, 1) := by decide +kernel
theorem dL_puts_62 : decode cL_puts 62 = .ok (.ireturn, 1) := by decide +kernel
theorem dL_puts_63 : decode cL_puts 63 = .ok (.aload 6, 2) := by decide +kernel
theorem dL_puts_65 : decode cL_puts 65 = .ok (.iload 9, 2) := by decide +kernel
theorem dL_puts_67 : decode cL_puts 67 = .ok (.iaload, 1) := by decide +kernel
theorem dL_puts_68 : decode cL_puts 68 = .ok (.iload 7, 2) := by decide +kernel
theorem dL_puts_70 : decode cL_puts 70 = .ok (.if_icmp .ge 8, 3) := by decide +kernel
theorem dL_puts_73 : decode cL_puts 73 = .ok (.iload 9, 2) := by decide +kernel
theorem dL_puts_75 : decode cL_puts 75 = .ok (.goto 5, 3) := by decide +kernel
theorem dL_puts_78 : decode cL_puts 78 = .ok (.iload 8, 2) := by decide +kernel
theorem dL_puts_80 : decode cL_puts 80 = .ok (.istore 8, 2) := by decide +kernel
theorem dL_puts_82 : decode cL_puts 82 = .ok (.aload 6, 2) := by decide +kernel
theorem dL_puts_84 : decode cL_puts 84 = .ok (.iload 9, 2) := by decide +kernel
theorem dL_puts_86 : decode cL_puts 86 = .ok (.iaload, 1) := by decide +kernel
theorem dL_puts_87 : decode cL_puts 87 = .ok (.iload 7, 2) := by decide +kernel
theorem dL_puts_89 : decode cL_puts 89 = .ok (.if_icmp .ge 11, 3) := by decide +kernel
theorem dL_puts_92 : decode cL_puts 92 = .ok (.aload 6, 2) := by decide +kernel
theorem dL_puts_94 : decode cL_puts 94 = .ok (.iload 9, 2) := by decide +kernel
theorem dL_puts_96 : decode cL_puts 96 = .ok (.iaload, 1) := by decide +kernel
theorem dL_puts_97 : decode cL_puts 97 = .ok (.goto 5, 3) := by decide +kernel
theorem dL_puts_100 : decode cL_puts 100 = .ok (.iload 7, 2) := by decide +kernel
theorem dL_puts_102 : decode cL_puts 102 = .ok (.istore 7, 2) := by decide +kernel
theorem dL_puts_104 : decode cL_puts 104 = .ok (.iinc 9 1, 3) := by decide +kernel
theorem dL_puts_107 : decode cL_puts 107 = .ok (.goto (-72), 3) := by decide +kernel
theorem dL_puts_110 : decode cL_puts 110 = .ok (.iload_n 2, 1) := by decide +kernel
theorem dL_puts_111 : decode cL_puts 111 = .ok (.iconst 3, 1) := by decide +kernel
theorem dL_puts_112 : decode cL_puts 112 = .ok (.ishr, 1) := by decide +kernel
theorem dL_puts_113 : decode cL_puts 113 = .ok (.iconst 3, 1) := by decide +kernel
theorem dL_puts_114 : decode cL_puts 114 = .ok (.invokestatic 66, 3) := by decide +kernel
theorem dL_puts_117 : decode cL_puts 117 = .ok (.istore 9, 2) := by decide +kernel
theorem dL_puts_119 : decode cL_puts 119 = .ok (.iload 9, 2) := by decide +kernel
theorem dL_puts_121 : decode cL_puts 121 = .ok (.ifCond .ne 63, 3) := by decide +kernel
theorem dL_puts_124 : decode cL_puts 124 = .ok (.aload_n 0, 1) := by decide +kernel
theorem dL_puts_125 : decode cL_puts 125 = .ok (.iload_n 1, 1) := by decide +kernel
theorem dL_puts_126 : decode cL_puts 126 = .ok (.invokevirtual 71, 3) := by decide +kernel
theorem dL_puts_129 : decode cL_puts 129 = .ok (.istore 10, 2) := by decide +kernel
theorem dL_puts_131 : decode cL_puts 131 = .ok (.iload 10, 2) := by decide +kernel
theorem dL_puts_133 : decode cL_puts 133 = .ok (.iload 8, 2) := by decide +kernel
theorem dL_puts_135 : decode cL_puts 135 = .ok (.ifCond .ge 9, 3) := by decide +kernel
theorem dL_puts_138 : decode cL_puts 138 = .ok (.sipush (-1005), 3) := by decide +kernel
theorem dL_puts_141 : decode cL_puts 141 = .ok (.goto 5, 3) := by decide +kernel
theorem dL_puts_144 : decode cL_puts 144 = .ok (.iload 8, 2) := by decide +kernel
theorem dL_puts_146 : decode cL_puts 146 = .ok (.if_icmp .ne 36, 3) := by decide +kernel
theorem dL_puts_149 : decode cL_puts 149 = .ok (.iload 8, 2) := by decide +kernel
theorem dL_puts_151 : decode cL_puts 151 = .ok (.ifCond .lt 27, 3) := by decide +kernel
theorem dL_puts_154 : decode cL_puts 154 = .ok (.aload_n 0, 1) := by decide +kernel
theorem dL_puts_155 : decode cL_puts 155 = .ok (.iconst 3, 1) := by decide +kernel
theorem dL_puts_156 : decode cL_puts 156 = .ok (.invokevirtual 25, 3) := by decide +kernel
theorem dL_puts_159 : decode cL_puts 159 = .ok (.iload 5, 2) := by decide +kernel
theorem dL_puts_161 : decode cL_puts 161 = .ok (.iload 7, 2) := by decide +kernel
theorem dL_puts_163 : decode cL_puts 163 = .ok (.iadd, 1) := by decide +kernel
theorem dL_puts_164 : decode cL_puts 164 = .ok (.if_icmp .ne 18, 3) := by decide +kernel
theorem dL_puts_167 : decode cL_puts 167 = .ok (.aload_n 0, 1) := by decide +kernel
theorem dL_puts_168 : decode cL_puts 168 = .ok (.iload_n 1, 1) := by decide +kernel
theorem dL_puts_169 : decode cL_puts 169 = .ok (.iconst 0, 1) := by decide +kernel
theorem dL_puts_170 : decode cL_puts 170 = .ok (.invokevirtual 36, 3) := by decide +kernel
theorem dL_puts_173 : decode cL_puts 173 = .ok (.iload 8, 2) := by decide +kernel
theorem dL_puts_175 : decode cL_puts 175 = .ok (.if_icmp .ne 7, 3) := by decide +kernel
theorem dL_puts_178 : decode cL_puts 178 = .ok (.iconst 1, 1) := by decide +kernel
theorem dL_puts_179 : decode cL_puts 179 = .ok (.goto 4, 3) := by decide +kernel
theorem dL_puts_182 : decode cL_puts 182 = .ok (.iconst 0, 1) := by decide +kernel
theorem dL_puts_183 : decode cL_puts 183 = .ok (.ireturn, 1) := by decide +kernel
theorem dL_puts_184 : decode cL_puts 184 = .ok (.iload 9, 2) := by decide +kernel
theorem dL_puts_186 : decode cL_puts 186 = .ok (.iconst 1, 1) := by decide +kernel
theorem dL_puts_187 : decode cL_puts 187 = .ok (.if_icmp .ne 73, 3) := by decide +kernel
theorem dL_puts_190 : decode cL_puts 190 = .ok (.aload_n 0, 1) := by decide +kernel
theorem dL_puts_191 : decode cL_puts 191 = .ok (.iload_n 1, 1) := by decide +kernel
theorem dL_puts_192 : decode cL_puts 192 = .ok (.iload 4, 2) := by decide +kernel
theorem dL_puts_194 : decode cL_puts 194 = .ok (.invokevirtual 74, 3) := by decide +kernel
theorem dL_puts_197 : decode cL_puts 197 = .ok (.istore 10, 2) := by decide +kernel
theorem dL_puts_199 : decode cL_puts 199 = .ok (.iload 10, 2) := by decide +kernel
theorem dL_puts_201 : decode cL_puts 201 = .ok (.aload 6, 2) := by decide +kernel
theorem dL_puts_203 : decode cL_puts 203 = .ok (.iload 4, 2) := by decide +kernel
theorem dL_puts_205 : decode cL_puts 205 = .ok (.iaload, 1) := by decide +kernel
theorem dL_puts_206 : decode cL_puts 206 = .ok (.ldc 50, 2) := by decide +kernel
theorem dL_puts_208 : decode cL_puts 208 = .ok (.if_icmp .ne 9, 3) := by decide +kernel
theorem dL_puts_211 : decode cL_puts 211 = .ok (.sipush (-1005), 3) := by decide +kernel
theorem dL_puts_214 : decode cL_puts 214 = .ok (.goto 8, 3) := by decide +kernel
theorem dL_puts_217 : decode cL_puts 217 = .ok (.aload 6, 2) := by decide +kernel
theorem dL_puts_219 : decode cL_puts 219 = .ok (.iload 4, 2) := by decide +kernel
theorem dL_puts_221 : decode cL_puts 221 = .ok (.iaload, 1) := by decide +kernel
theorem dL_puts_222 : decode cL_puts 222 = .ok (.if_icmp .ne 36, 3) := by decide +kernel
theorem dL_puts_225 : decode cL_puts 225 = .ok (.iload 10, 2) := by decide +kernel
theorem dL_puts_227 : decode cL_puts 227 = .ok (.ifCond .lt 27, 3) := by decide +kernel
theorem dL_puts_230 : decode cL_puts 230 = .ok (.aload_n 0, 1) := by decide +kernel
theorem dL_puts_231 : decode cL_puts 231 = .ok (.iconst 3, 1) := by decide +kernel
theorem dL_puts_232 : decode cL_puts 232 = .ok (.invokevirtual 25, 3) := by decide +kernel
theorem dL_puts_235 : decode cL_puts 235 = .ok (.iload 5, 2) := by decide +kernel
theorem dL_puts_237 : decode cL_puts 237 = .ok (.iload 10, 2) := by decide +kernel
theorem dL_puts_239 : decode cL_puts 239 = .ok (.iadd, 1) := by decide +kernel
theorem dL_puts_240 : decode cL_puts 240 = .ok (.if_icmp .ne 18, 3) := by decide +kernel
theorem dL_puts_243 : decode cL_puts 243 = .ok (.aload_n 0, 1) := by decide +kernel
theorem dL_puts_244 : decode cL_puts 244 = .ok (.iload_n 1, 1) := by decide +kernel
theorem dL_puts_245 : decode cL_puts 245 = .ok (.iconst 0, 1) := by decide +kernel
theorem dL_puts_246 : decode cL_puts 246 = .ok (.invokevirtual 36, 3) := by decide +kernel
theorem dL_puts_249 : decode cL_puts 249 = .ok (.iload 4, 2) := by decide +kernel
theorem dL_puts_251 : decode cL_puts 251 = .ok (.if_icmp .ne 7, 3) := by decide +kernel
theorem dL_puts_254 : decode cL_puts 254 = .ok (.iconst 1, 1) := by decide +kernel
theorem dL_puts_255 : decode cL_puts 255 = .ok (.goto 4, 3) := by decide +kernel
theorem dL_puts_258 : decode cL_puts 258 = .ok (.iconst 0, 1) := by decide +kernel
theorem dL_puts_259 : decode cL_puts 259 = .ok (.ireturn, 1) := by decide +kernel
theorem dL_puts_260 : decode cL_puts 260 = .ok (.aload_n 0, 1) := by decide +kernel
theorem dL_puts_261 : decode cL_puts 261 = .ok (.iload 4, 2) := by decide +kernel
theorem dL_puts_263 : decode cL_puts 263 = .ok (.iconst 3, 1) := by decide +kernel
theorem dL_puts_264 : decode cL_puts 264 = .ok (.invokevirtual 21, 3) := by decide +kernel
theorem dL_puts_267 : decode cL_puts 267 = .ok (.istore 10, 2) := by decide +kernel
theorem dL_puts_269 : decode cL_puts 269 = .ok (.iload_n 2, 1) := by decide +kernel
theorem dL_puts_270 : decode cL_puts 270 = .ok (.iconst 5, 1) := by decide +kernel
theorem dL_puts_271 : decode cL_puts 271 = .ok (.ishr, 1) := by decide +kernel
theorem dL_puts_272 : decode cL_puts 272 = .ok (.iload 10, 2) := by decide +kernel
theorem dL_puts_274 : decode cL_puts 274 = .ok (.iconst 1, 1) := by decide +kernel
theorem dL_puts_275 : decode cL_puts 275 = .ok (.iadd, 1) := by decide +kernel
theorem dL_puts_276 : decode cL_puts 276 = .ok (.invokestatic 66, 3) := by decide +kernel
theorem dL_puts_279 : decode cL_puts 279 = .ok (.istore 11, 2) := by decide +kernel
theorem dL_puts_281 : decode cL_puts 281 = .ok (.iload 11, 2) := by decide +kernel
theorem dL_puts_283 : decode cL_puts 283 = .ok (.iconst 1, 1) := by decide +kernel
theorem dL_puts_284 : decode cL_puts 284 = .ok (.iadd, 1) := by decide +kernel
theorem dL_puts_285 : decode cL_puts 285 = .ok (.iload_n 2, 1) := by decide +kernel
theorem dL_puts_286 : decode cL_puts 286 = .ok (.bipush 9, 2) := by decide +kernel
theorem dL_puts_288 : decode cL_puts 288 = .ok (.ishr, 1) := by decide +kernel
theorem dL_puts_289 : decode cL_puts 289 = .ok (.iload 10, 2) := by decide +kernel
theorem dL_puts_291 : decode cL_puts 291 = .ok (.iconst 1, 1) := by decide +kernel
theorem dL_puts_292 : decode cL_puts 292 = .ok (.iadd, 1) := by decide +kernel
theorem dL_puts_293 : decode cL_puts 293 = .ok (.iload 11, 2) := by decide +kernel
theorem dL_puts_295 : decode cL_puts 295 = .ok (.isub, 1) := by decide +kernel
theorem dL_puts_296 : decode cL_puts 296 = .ok (.invokestatic 66, 3) := by decide +kernel
theorem dL_puts_299 : decode cL_puts 299 = .ok (.iadd, 1) := by decide +kernel
theorem dL_puts_300 : decode cL_puts 300 = .ok (.istore 12, 2) := by decide +kernel
theorem dL_puts_302 : decode cL_puts 302 = .ok (.aload_n 0, 1) := by decide +kernel
theorem dL_puts_303 : decode cL_puts 303 = .ok (.iload_n 1, 1) := by decide +kernel
theorem dL_puts_304 : decode cL_puts 304 = .ok (.iload 4, 2) := by decide +kernel
theorem dL_puts_306 : decode cL_puts 306 = .ok (.iload 11, 2) := by decide +kernel
theorem dL_puts_308 : decode cL_puts 308 = .ok (.iload 12, 2) := by decide +kernel
theorem dL_puts_310 : decode cL_puts 310 = .ok (.invokevirtual 51, 3) := by decide +kernel
theorem dL_puts_313 : decode cL_puts 313 = .ok (.istore 13, 2) := by decide +kernel
theorem dL_puts_315 : decode cL_puts 315 = .ok (.aload_n 0, 1) := by decide +kernel
theorem dL_puts_316 : decode cL_puts 316 = .ok (.iload_n 1, 1) := by decide +kernel
theorem dL_puts_317 : decode cL_puts 317 = .ok (.iload 4, 2) := by decide +kernel
theorem dL_puts_319 : decode cL_puts 319 = .ok (.iload 11, 2) := by decide +kernel
theorem dL_puts_321 : decode cL_puts 321 = .ok (.iload 12, 2) := by decide +kernel
theorem dL_puts_323 : decode cL_puts 323 = .ok (.invokevirtual 77, 3) := by decide +kernel
theorem dL_puts_326 : decode cL_puts 326 = .ok (.istore 14, 2) := by decide +kernel
theorem dL_puts_328 : decode cL_puts 328 = .ok (.iload 14, 2) := by decide +kernel
theorem dL_puts_330 : decode cL_puts 330 = .ok (.iload 13, 2) := by decide +kernel
theorem dL_puts_332 : decode cL_puts 332 = .ok (.if_icmp .ne 75, 3) := by decide +kernel
theorem dL_puts_335 : decode cL_puts 335 = .ok (.iload 14, 2) := by decide +kernel
theorem dL_puts_337 : decode cL_puts 337 = .ok (.ifCond .ge 14, 3) := by decide +kernel
theorem dL_puts_340 : decode cL_puts 340 = .ok (.iload 14, 2) := by decide +kernel
theorem dL_puts_342 : decode cL_puts 342 = .ok (.sipush (-1005), 3) := by decide +kernel
theorem dL_puts_345 : decode cL_puts 345 = .ok (.if_icmp .ne 62, 3) := by decide +kernel
theorem dL_puts_348 : decode cL_puts 348 = .ok (.goto 55, 3) := by decide +kernel
theorem dL_puts_351 : decode cL_puts 351 = .ok (.aload_n 0, 1) := by decide +kernel
theorem dL_puts_352 : decode cL_puts 352 = .ok (.iload 4, 2) := by decide +kernel
theorem dL_puts_354 : decode cL_puts 354 = .ok (.iload 11, 2) := by decide +kernel
theorem dL_puts_356 : decode cL_puts 356 = .ok (.iconst 0, 1) := by decide +kernel
theorem dL_puts_357 : decode cL_puts 357 = .ok (.invokevirtual 15, 3) := by decide +kernel
theorem dL_puts_360 : decode cL_puts 360 = .ok (.iload_n 1, 1) := by decide +kernel
theorem dL_puts_361 : decode cL_puts 361 = .ok (.if_icmp .ne 46, 3) := by decide +kernel
theorem dL_puts_364 : decode cL_puts 364 = .ok (.aload_n 0, 1) := by decide +kernel
theorem dL_puts_365 : decode cL_puts 365 = .ok (.iload 4, 2) := by decide +kernel
theorem dL_puts_367 : decode cL_puts 367 = .ok (.iload 12, 2) := by decide +kernel
theorem dL_puts_369 : decode cL_puts 369 = .ok (.iconst 0, 1) := by decide +kernel
theorem dL_puts_370 : decode cL_puts 370 = .ok (.invokevirtual 15, 3) := by decide +kernel
theorem dL_puts_373 : decode cL_puts 373 = .ok (.iload_n 1, 1) := by decide +kernel
theorem dL_puts_374 : decode cL_puts 374 = .ok (.if_icmp .ne 33, 3) := by decide +kernel
theorem dL_puts_377 : decode cL_puts 377 = .ok (.aload_n 0, 1) := by decide +kernel
theorem dL_puts_378 : decode cL_puts 378 = .ok (.iload 4, 2) := by decide +kernel
theorem dL_puts_380 : decode cL_puts 380 = .ok (.iload 12, 2) := by decide +kernel
theorem dL_puts_382 : decode cL_puts 382 = .ok (.iconst 1, 1) := by decide +kernel
theorem dL_puts_383 : decode cL_puts 383 = .ok (.invokevirtual 15, 3) := by decide +kernel
theorem dL_puts_386 : decode cL_puts 386 = .ok (.iconst 1, 1) := by decide +kernel
theorem dL_puts_387 : decode cL_puts 387 = .ok (.if_icmp .ne 20, 3) := by decide +kernel
theorem dL_puts_390 : decode cL_puts 390 = .ok (.aload_n 0, 1) := by decide +kernel
theorem dL_puts_391 : decode cL_puts 391 = .ok (.iconst 3, 1) := by decide +kernel
theorem dL_puts_392 : decode cL_puts 392 = .ok (.invokevirtual 25, 3) := by decide +kernel
theorem dL_puts_395 : decode cL_puts 395 = .ok (.iload 5, 2) := by decide +kernel
theorem dL_puts_397 : decode cL_puts 397 = .ok (.iload 13, 2) := by decide +kernel
theorem dL_puts_399 : decode cL_puts 399 = .ok (.iadd, 1) := by decide +kernel
theorem dL_puts_400 : decode cL_puts 400 = .ok (.if_icmp .ne 7, 3) := by decide +kernel
theorem dL_puts_403 : decode cL_puts 403 = .ok (.iconst 1, 1) := by decide +kernel
theorem dL_puts_404 : decode cL_puts 404 = .ok (.goto 4, 3) := by decide +kernel
theorem dL_puts_407 : decode cL_puts 407 = .ok (.iconst 0, 1) := by decide +kernel
theorem dL_puts_408 : decode cL_puts 408 = .ok (.ireturn, 1) := by decide +kernel
theorem dL_chains_0 : decode cL_chains 0 = .ok (.aload_n 0, 1) := by decide +kernel
theorem dL_chains_1 : decode cL_chains 1 = .ok (.iconst 3, 1) := by decide +kernel
theorem dL_chains_2 : decode cL_chains 2 = .ok (.invokevirtual 25, 3) := by decide +kernel
theorem dL_chains_5 : decode cL_chains 5 = .ok (.istore_n 2, 1) := by decide +kernel
theorem dL_chains_6 : decode cL_chains 6 = .ok (.aload_n 0, 1) := by decide +kernel
theorem dL_chains_7 : decode cL_chains 7 = .ok (.iconst 2, 1) := by decide +kernel
theorem dL_chains_8 : decode cL_chains 8 = .ok (.invokevirtual 25, 3) := by decide +kernel
theorem dL_chains_11 : decode cL_chains 11 = .ok (.istore_n 3, 1) := by decide +kernel
theorem dL_chains_12 : decode cL_chains 12 = .ok (.aload_n 0, 1) := by decide +kernel
