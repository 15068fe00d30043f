theorem dL_chains_13 : decode cL_chains 13 = .ok (.iload_n 1, 1) := by decide +kernel
theorem dL_chains_14 : decode cL_chains 14 = .ok (.invokevirtual 80, 3) := by decide +kernel
theorem dL_chains_17 : decode cL_chains 17 = .ok (.istore 4, 2) := by decide +kernel
theorem dL_chains_19 : decode cL_chains 19 = .ok (.aload_n 0, 1) := by decide +kernel
theorem dL_chains_20 : decode cL_chains 20 = .ok (.invokestatic 83, 3) := by decide +kernel
theorem dL_chains_23 : decode cL_chains 23 = .ok (.lstore 5, 2) := by decide +kernel
theorem dL_chains_25 : decode cL_chains 25 = .ok (.bipush 12, 2) := by decide +kernel
theorem dL_chains_27 : decode cL_chains 27 = .ok (.newarray .int, 2) := by decide +kernel
theorem dL_chains_29 : decode cL_chains 29 = .ok (.astore 7, 2) := by decide +kernel
theorem dL_chains_31 : decode cL_chains 31 = .ok (.iconst 0, 1) := by decide +kernel
theorem dL_chains_32 : decode cL_chains 32 = .ok (.istore 8, 2) := by decide +kernel
theorem dL_chains_34 : decode cL_chains 34 = .ok (.iload 8, 2) := by decide +kernel
theorem dL_chains_36 : decode cL_chains 36 = .ok (.aload_n 0, 1) := by decide +kernel
theorem dL_chains_37 : decode cL_chains 37 = .ok (.iconst 1, 1) := by decide +kernel
theorem dL_chains_38 : decode cL_chains 38 = .ok (.invokevirtual 25, 3) := by decide +kernel
theorem dL_chains_41 : decode cL_chains 41 = .ok (.if_icmp .ge 21, 3) := by decide +kernel
theorem dL_chains_44 : decode cL_chains 44 = .ok (.aload 7, 2) := by decide +kernel
theorem dL_chains_46 : decode cL_chains 46 = .ok (.iload 8, 2) := by decide +kernel
theorem dL_chains_48 : decode cL_chains 48 = .ok (.aload_n 0, 1) := by decide +kernel
theorem dL_chains_49 : decode cL_chains 49 = .ok (.iload 8, 2) := by decide +kernel
theorem dL_chains_51 : decode cL_chains 51 = .ok (.iconst 0, 1) := by decide +kernel
theorem dL_chains_52 : decode cL_chains 52 = .ok (.invokevirtual 36, 3) := by decide +kernel
theorem dL_chains_55 : decode cL_chains 55 = .ok (.iastore, 1) := by decide +kernel
theorem dL_chains_56 : decode cL_chains 56 = .ok (.iinc 8 1, 3) := by decide +kernel
theorem dL_chains_59 : decode cL_chains 59 = .ok (.goto (-25), 3) := by decide +kernel
theorem dL_chains_62 : decode cL_chains 62 = .ok (.aload_n 0, 1) := by decide +kernel
theorem dL_chains_63 : decode cL_chains 63 = .ok (.iload_n 1, 1) := by decide +kernel
theorem dL_chains_64 : decode cL_chains 64 = .ok (.invokevirtual 87, 3) := by decide +kernel
theorem dL_chains_67 : decode cL_chains 67 = .ok (.istore 8, 2) := by decide +kernel
theorem dL_chains_69 : decode cL_chains 69 = .ok (.iload 4, 2) := by decide +kernel
theorem dL_chains_71 : decode cL_chains 71 = .ok (.ifCond .lt 8, 3) := by decide +kernel
theorem dL_chains_74 : decode cL_chains 74 = .ok (.iload 8, 2) := by decide +kernel
theorem dL_chains_76 : decode cL_chains 76 = .ok (.ifCond .ge 35, 3) := by decide +kernel
theorem dL_chains_79 : decode cL_chains 79 = .ok (.iload 4, 2) := by decide +kernel
theorem dL_chains_81 : decode cL_chains 81 = .ok (.sipush (-1005), 3) := by decide +kernel
theorem dL_chains_84 : decode cL_chains 84 = .ok (.if_icmp .ne 25, 3) := by decide +kernel
theorem dL_chains_87 : decode cL_chains 87 = .ok (.iload 8, 2) := by decide +kernel
theorem dL_chains_89 : decode cL_chains 89 = .ok (.sipush (-1005), 3) := by decide +kernel
theorem dL_chains_92 : decode cL_chains 92 = .ok (.if_icmp .ne 17, 3) := by decide +kernel
theorem dL_chains_95 : decode cL_chains 95 = .ok (.aload_n 0, 1) := by decide +kernel
theorem dL_chains_96 : decode cL_chains 96 = .ok (.invokestatic 83, 3) := by decide +kernel
theorem dL_chains_99 : decode cL_chains 99 = .ok (.lload 5, 2) := by decide +kernel
theorem dL_chains_101 : decode cL_chains 101 = .ok (.lcmp, 1) := by decide +kernel
theorem dL_chains_102 : decode cL_chains 102 = .ok (.ifCond .ne 7, 3) := by decide +kernel
theorem dL_chains_105 : decode cL_chains 105 = .ok (.iconst 1, 1) := by decide +kernel
theorem dL_chains_106 : decode cL_chains 106 = .ok (.goto 4, 3) := by decide +kernel
theorem dL_chains_109 : decode cL_chains 109 = .ok (.iconst 0, 1) := by decide +kernel
theorem dL_chains_110 : decode cL_chains 110 = .ok (.ireturn, 1) := by decide +kernel
theorem dL_chains_111 : decode cL_chains 111 = .ok (.iload 8, 2) := by decide +kernel
theorem dL_chains_113 : decode cL_chains 113 = .ok (.bipush 100, 2) := by decide +kernel
theorem dL_chains_115 : decode cL_chains 115 = .ok (.idiv, 1) := by decide +kernel
theorem dL_chains_116 : decode cL_chains 116 = .ok (.istore 9, 2) := by decide +kernel
theorem dL_chains_118 : decode cL_chains 118 = .ok (.iload 8, 2) := by decide +kernel
theorem dL_chains_120 : decode cL_chains 120 = .ok (.bipush 100, 2) := by decide +kernel
theorem dL_chains_122 : decode cL_chains 122 = .ok (.irem, 1) := by decide +kernel
theorem dL_chains_123 : decode cL_chains 123 = .ok (.istore 10, 2) := by decide +kernel
theorem dL_chains_125 : decode cL_chains 125 = .ok (.aload_n 0, 1) := by decide +kernel
theorem dL_chains_126 : decode cL_chains 126 = .ok (.iload_n 1, 1) := by decide +kernel
theorem dL_chains_127 : decode cL_chains 127 = .ok (.iconst 0, 1) := by decide +kernel
theorem dL_chains_128 : decode cL_chains 128 = .ok (.invokevirtual 36, 3) := by decide +kernel
theorem dL_chains_131 : decode cL_chains 131 = .ok (.aload 7, 2) := by decide +kernel
theorem dL_chains_133 : decode cL_chains 133 = .ok (.iload 9, 2) := by decide +kernel
theorem dL_chains_135 : decode cL_chains 135 = .ok (.iaload, 1) := by decide +kernel
theorem dL_chains_136 : decode cL_chains 136 = .ok (.if_icmp .ne 95, 3) := by decide +kernel
theorem dL_chains_139 : decode cL_chains 139 = .ok (.iload 10, 2) := by decide +kernel
theorem dL_chains_141 : decode cL_chains 141 = .ok (.bipush 99, 2) := by decide +kernel
theorem dL_chains_143 : decode cL_chains 143 = .ok (.if_icmp .ne 31, 3) := by decide +kernel
theorem dL_chains_146 : decode cL_chains 146 = .ok (.aload_n 0, 1) := by decide +kernel
theorem dL_chains_147 : decode cL_chains 147 = .ok (.iload 9, 2) := by decide +kernel
theorem dL_chains_149 : decode cL_chains 149 = .ok (.iconst 0, 1) := by decide +kernel
theorem dL_chains_150 : decode cL_chains 150 = .ok (.invokevirtual 36, 3) := by decide +kernel
theorem dL_chains_153 : decode cL_chains 153 = .ok (.aload 7, 2) := by decide +kernel
theorem dL_chains_155 : decode cL_chains 155 = .ok (.iload 9, 2) := by decide +kernel
theorem dL_chains_157 : decode cL_chains 157 = .ok (.iaload, 1) := by decide +kernel
theorem dL_chains_158 : decode cL_chains 158 = .ok (.if_icmp .eq 73, 3) := by decide +kernel
theorem dL_chains_161 : decode cL_chains 161 = .ok (.aload_n 0, 1) := by decide +kernel
theorem dL_chains_162 : decode cL_chains 162 = .ok (.iload 9, 2) := by decide +kernel
theorem dL_chains_164 : decode cL_chains 164 = .ok (.iconst 0, 1) := by decide +kernel
theorem dL_chains_165 : decode cL_chains 165 = .ok (.invokevirtual 36, 3) := by decide +kernel
theorem dL_chains_168 : decode cL_chains 168 = .ok (.ifCond .lt 63, 3) := by decide +kernel
theorem dL_chains_171 : decode cL_chains 171 = .ok (.goto 56, 3) := by decide +kernel
theorem dL_chains_174 : decode cL_chains 174 = .ok (.aload_n 0, 1) := by decide +kernel
theorem dL_chains_175 : decode cL_chains 175 = .ok (.iload 9, 2) := by decide +kernel
theorem dL_chains_177 : decode cL_chains 177 = .ok (.iconst 0, 1) := by decide +kernel
theorem dL_chains_178 : decode cL_chains 178 = .ok (.invokevirtual 36, 3) := by decide +kernel
theorem dL_chains_181 : decode cL_chains 181 = .ok (.aload 7, 2) := by decide +kernel
theorem dL_chains_183 : decode cL_chains 183 = .ok (.iload 10, 2) := by decide +kernel
theorem dL_chains_185 : decode cL_chains 185 = .ok (.iaload, 1) := by decide +kernel
theorem dL_chains_186 : decode cL_chains 186 = .ok (.if_icmp .ne 45, 3) := by decide +kernel
theorem dL_chains_189 : decode cL_chains 189 = .ok (.aload_n 0, 1) := by decide +kernel
theorem dL_chains_190 : decode cL_chains 190 = .ok (.iload 10, 2) := by decide +kernel
theorem dL_chains_192 : decode cL_chains 192 = .ok (.iconst 0, 1) := by decide +kernel
theorem dL_chains_193 : decode cL_chains 193 = .ok (.invokevirtual 36, 3) := by decide +kernel
theorem dL_chains_196 : decode cL_chains 196 = .ok (.aload 7, 2) := by decide +kernel
theorem dL_chains_198 : decode cL_chains 198 = .ok (.iload 10, 2) := by decide +kernel
theorem dL_chains_200 : decode cL_chains 200 = .ok (.iaload, 1) := by decide +kernel
theorem dL_chains_201 : decode cL_chains 201 = .ok (.if_icmp .eq 30, 3) := by decide +kernel
theorem dL_chains_204 : decode cL_chains 204 = .ok (.aload_n 0, 1) := by decide +kernel
theorem dL_chains_205 : decode cL_chains 205 = .ok (.iload 10, 2) := by decide +kernel
theorem dL_chains_207 : decode cL_chains 207 = .ok (.iconst 0, 1) := by decide +kernel
theorem dL_chains_208 : decode cL_chains 208 = .ok (.invokevirtual 36, 3) := by decide +kernel
theorem dL_chains_211 : decode cL_chains 211 = .ok (.ifCond .lt 20, 3) := by decide +kernel
theorem dL_chains_214 : decode cL_chains 214 = .ok (.aload 7, 2) := by decide +kernel
theorem dL_chains_216 : decode cL_chains 216 = .ok (.iload 9, 2) := by decide +kernel
theorem dL_chains_218 : decode cL_chains 218 = .ok (.iaload, 1) := by decide +kernel
theorem dL_chains_219 : decode cL_chains 219 = .ok (.aload 7, 2) := by decide +kernel
theorem dL_chains_221 : decode cL_chains 221 = .ok (.iload 10, 2) := by decide +kernel
theorem dL_chains_223 : decode cL_chains 223 = .ok (.iaload, 1) := by decide +kernel
theorem dL_chains_224 : decode cL_chains 224 = .ok (.if_icmp .eq 7, 3) := by decide +kernel
theorem dL_chains_227 : decode cL_chains 227 = .ok (.iconst 1, 1) := by decide +kernel
theorem dL_chains_228 : decode cL_chains 228 = .ok (.goto 4, 3) := by decide +kernel
theorem dL_chains_231 : decode cL_chains 231 = .ok (.iconst 0, 1) := by decide +kernel
theorem dL_chains_232 : decode cL_chains 232 = .ok (.istore 11, 2) := by decide +kernel
theorem dL_chains_234 : decode cL_chains 234 = .ok (.iconst 0, 1) := by decide +kernel
theorem dL_chains_235 : decode cL_chains 235 = .ok (.istore 12, 2) := by decide +kernel
theorem dL_chains_237 : decode cL_chains 237 = .ok (.iload 12, 2) := by decide +kernel
theorem dL_chains_239 : decode cL_chains 239 = .ok (.aload_n 0, 1) := by decide +kernel
theorem dL_chains_240 : decode cL_chains 240 = .ok (.iconst 1, 1) := by decide +kernel
theorem dL_chains_241 : decode cL_chains 241 = .ok (.invokevirtual 25, 3) := by decide +kernel
theorem dL_chains_244 : decode cL_chains 244 = .ok (.if_icmp .ge 46, 3) := by decide +kernel
theorem dL_chains_247 : decode cL_chains 247 = .ok (.iload 12, 2) := by decide +kernel
theorem dL_chains_249 : decode cL_chains 249 = .ok (.iload_n 1, 1) := by decide +kernel
theorem dL_chains_250 : decode cL_chains 250 = .ok (.if_icmp .eq 34, 3) := by decide +kernel
theorem dL_chains_253 : decode cL_chains 253 = .ok (.iload 12, 2) := by decide +kernel
theorem dL_chains_255 : decode cL_chains 255 = .ok (.iload 9, 2) := by decide +kernel
theorem dL_chains_257 : decode cL_chains 257 = .ok (.if_icmp .eq 27, 3) := by decide +kernel
theorem dL_chains_260 : decode cL_chains 260 = .ok (.iload 12, 2) := by decide +kernel
theorem dL_chains_262 : decode cL_chains 262 = .ok (.iload 10, 2) := by decide +kernel
theorem dL_chains_264 : decode cL_chains 264 = .ok (.if_icmp .eq 20, 3) := by decide +kernel
theorem dL_chains_267 : decode cL_chains 267 = .ok (.aload_n 0, 1) := by decide +kernel
theorem dL_chains_268 : decode cL_chains 268 = .ok (.iload 12, 2) := by decide +kernel
theorem dL_chains_270 : decode cL_chains 270 = .ok (.iconst 0, 1) := by decide +kernel
theorem dL_chains_271 : decode cL_chains 271 = .ok (.invokevirtual 36, 3) := by decide +kernel
theorem dL_chains_274 : decode cL_chains 274 = .ok (.aload 7, 2) := by decide +kernel
theorem dL_chains_276 : decode cL_chains 276 = .ok (.iload 12, 2) := by decide +kernel
theorem dL_chains_278 : decode cL_chains 278 = .ok (.iaload, 1) := by decide +kernel
theorem dL_chains_279 : decode cL_chains 279 = .ok (.if_icmp .eq 5, 3) := by decide +kernel
theorem dL_chains_282 : decode cL_chains 282 = .ok (.iconst 0, 1) := by decide +kernel
theorem dL_chains_283 : decode cL_chains 283 = .ok (.ireturn, 1) := by decide +kernel
theorem dL_chains_284 : decode cL_chains 284 = .ok (.iinc 12 1, 3) := by decide +kernel
theorem dL_chains_287 : decode cL_chains 287 = .ok (.goto (-50), 3) := by decide +kernel
theorem dL_chains_290 : decode cL_chains 290 = .ok (.iload 11, 2) := by decide +kernel
theorem dL_chains_292 : decode cL_chains 292 = .ok (.ifCond .eq 34, 3) := by decide +kernel
theorem dL_chains_295 : decode cL_chains 295 = .ok (.aload_n 0, 1) := by decide +kernel
theorem dL_chains_296 : decode cL_chains 296 = .ok (.iconst 3, 1) := by decide +kernel
theorem dL_chains_297 : decode cL_chains 297 = .ok (.invokevirtual 25, 3) := by decide +kernel
theorem dL_chains_300 : decode cL_chains 300 = .ok (.iload_n 2, 1) := by decide +kernel
theorem dL_chains_301 : decode cL_chains 301 = .ok (.iload 4, 2) := by decide +kernel
theorem dL_chains_303 : decode cL_chains 303 = .ok (.iadd, 1) := by decide +kernel
theorem dL_chains_304 : decode cL_chains 304 = .ok (.sipush 10000, 3) := by decide +kernel
theorem dL_chains_307 : decode cL_chains 307 = .ok (.isub, 1) := by decide +kernel
theorem dL_chains_308 : decode cL_chains 308 = .ok (.if_icmp .ne 18, 3) := by decide +kernel
theorem dL_chains_311 : decode cL_chains 311 = .ok (.aload_n 0, 1) := by decide +kernel
theorem dL_chains_312 : decode cL_chains 312 = .ok (.iconst 2, 1) := by decide +kernel
theorem dL_chains_313 : decode cL_chains 313 = .ok (.invokevirtual 25, 3) := by decide +kernel
theorem dL_chains_316 : decode cL_chains 316 = .ok (.iload_n 3, 1) := by decide +kernel
theorem dL_chains_317 : decode cL_chains 317 = .ok (.iconst 1, 1) := by decide +kernel
theorem dL_chains_318 : decode cL_chains 318 = .ok (.isub, 1) := by decide +kernel
theorem dL_chains_319 : decode cL_chains 319 = .ok (.if_icmp .ne 7, 3) := by decide +kernel
theorem dL_chains_322 : decode cL_chains 322 = .ok (.iconst 1, 1) := by decide +kernel
theorem dL_chains_323 : decode cL_chains 323 = .ok (.goto 4, 3) := by decide +kernel
theorem dL_chains_326 : decode cL_chains 326 = .ok (.iconst 0, 1) := by decide +kernel
theorem dL_chains_327 : decode cL_chains 327 = .ok (.ireturn, 1) := by decide +kernel
theorem dL_errors_0 : decode cL_errors 0 = .ok (.aload_n 0, 1) := by decide +kernel
theorem dL_errors_1 : decode cL_errors 1 = .ok (.iconst 0, 1) := by decide +kernel
theorem dL_errors_2 : decode cL_errors 2 = .ok (.invokevirtual 25, 3) := by decide +kernel
theorem dL_errors_5 : decode cL_errors 5 = .ok (.istore_n 1, 1) := by decide +kernel
theorem dL_errors_6 : decode cL_errors 6 = .ok (.aload_n 0, 1) := by decide +kernel
theorem dL_errors_7 : decode cL_errors 7 = .ok (.iconst 1, 1) := by decide +kernel
theorem dL_errors_8 : decode cL_errors 8 = .ok (.invokevirtual 25, 3) := by decide +kernel
theorem dL_errors_11 : decode cL_errors 11 = .ok (.istore_n 2, 1) := by decide +kernel
theorem dL_errors_12 : decode cL_errors 12 = .ok (.sipush (-1001), 3) := by decide +kernel
theorem dL_errors_15 : decode cL_errors 15 = .ok (.istore_n 3, 1) := by decide +kernel
theorem dL_errors_16 : decode cL_errors 16 = .ok (.sipush (-1002), 3) := by decide +kernel
theorem dL_errors_19 : decode cL_errors 19 = .ok (.istore 4, 2) := by decide +kernel
theorem dL_errors_21 : decode cL_errors 21 = .ok (.aload_n 0, 1) := by decide +kernel
theorem dL_errors_22 : decode cL_errors 22 = .ok (.bipush 100, 2) := by decide +kernel
theorem dL_errors_24 : decode cL_errors 24 = .ok (.iconst 0, 1) := by decide +kernel
theorem dL_errors_25 : decode cL_errors 25 = .ok (.iconst 1, 1) := by decide +kernel
theorem dL_errors_26 : decode cL_errors 26 = .ok (.iconst 0, 1) := by decide +kernel
theorem dL_errors_27 : decode cL_errors 27 = .ok (.iconst 1, 1) := by decide +kernel
theorem dL_errors_28 : decode cL_errors 28 = .ok (.invokevirtual 90, 3) := by decide +kernel
theorem dL_errors_31 : decode cL_errors 31 = .ok (.iload 4, 2) := by decide +kernel
theorem dL_errors_33 : decode cL_errors 33 = .ok (.if_icmp .ne 175, 3) := by decide +kernel
theorem dL_errors_36 : decode cL_errors 36 = .ok (.aload_n 0, 1) := by decide +kernel
theorem dL_errors_37 : decode cL_errors 37 = .ok (.iconst 0, 1) := by decide +kernel
theorem dL_errors_38 : decode cL_errors 38 = .ok (.iconst 0, 1) := by decide +kernel
theorem dL_errors_39 : decode cL_errors 39 = .ok (.bipush 9, 2) := by decide +kernel
theorem dL_errors_41 : decode cL_errors 41 = .ok (.iconst 0, 1) := by decide +kernel
theorem dL_errors_42 : decode cL_errors 42 = .ok (.iconst 1, 1) := by decide +kernel
theorem dL_errors_43 : decode cL_errors 43 = .ok (.invokevirtual 90, 3) := by decide +kernel
theorem dL_errors_46 : decode cL_errors 46 = .ok (.iload 4, 2) := by decide +kernel
theorem dL_errors_48 : decode cL_errors 48 = .ok (.if_icmp .ne 160, 3) := by decide +kernel
theorem dL_errors_51 : decode cL_errors 51 = .ok (.aload_n 0, 1) := by decide +kernel
theorem dL_errors_52 : decode cL_errors 52 = .ok (.iconst 0, 1) := by decide +kernel
theorem dL_errors_53 : decode cL_errors 53 = .ok (.iconst 0, 1) := by decide +kernel
theorem dL_errors_54 : decode cL_errors 54 = .ok (.iconst 1, 1) := by decide +kernel
theorem dL_errors_55 : decode cL_errors 55 = .ok (.iconst 5, 1) := by decide +kernel
theorem dL_errors_56 : decode cL_errors 56 = .ok (.iconst 4, 1) := by decide +kernel
theorem dL_errors_57 : decode cL_errors 57 = .ok (.invokevirtual 90, 3) := by decide +kernel
theorem dL_errors_60 : decode cL_errors 60 = .ok (.iload 4, 2) := by decide +kernel
theorem dL_errors_62 : decode cL_errors 62 = .ok (.if_icmp .ne 146, 3) := by decide +kernel
theorem dL_errors_65 : decode cL_errors 65 = .ok (.aload_n 0, 1) := by decide +kernel
theorem dL_errors_66 : decode cL_errors 66 = .ok (.iconst 0, 1) := by decide +kernel
theorem dL_errors_67 : decode cL_errors 67 = .ok (.iconst (-1), 1) := by decide +kernel
theorem dL_errors_68 : decode cL_errors 68 = .ok (.iconst 0, 1) := by decide +kernel
theorem dL_errors_69 : decode cL_errors 69 = .ok (.iconst 0, 1) := by decide +kernel
theorem dL_errors_70 : decode cL_errors 70 = .ok (.iconst 1, 1) := by decide +kernel
theorem dL_errors_71 : decode cL_errors 71 = .ok (.iconst 1, 1) := by decide +kernel
theorem dL_errors_72 : decode cL_errors 72 = .ok (.invokevirtual 94, 3) := by decide +kernel
theorem dL_errors_75 : decode cL_errors 75 = .ok (.iload 4, 2) := by decide +kernel
theorem dL_errors_77 : decode cL_errors 77 = .ok (.if_icmp .ne 131, 3) := by decide +kernel
theorem dL_errors_80 : decode cL_errors 80 = .ok (.aload_n 0, 1) := by decide +kernel
theorem dL_errors_81 : decode cL_errors 81 = .ok (.iconst 0, 1) := by decide +kernel
theorem dL_errors_82 : decode cL_errors 82 = .ok (.iconst 0, 1) := by decide +kernel
theorem dL_errors_83 : decode cL_errors 83 = .ok (.iconst 0, 1) := by decide +kernel
theorem dL_errors_84 : decode cL_errors 84 = .ok (.iconst 0, 1) := by decide +kernel
theorem dL_errors_85 : decode cL_errors 85 = .ok (.iconst 0, 1) := by decide +kernel
theorem dL_errors_86 : decode cL_errors 86 = .ok (.iconst 1, 1) := by decide +kernel
theorem dL_errors_87 : decode cL_errors 87 = .ok (.invokevirtual 94, 3) := by decide +kernel
theorem dL_errors_90 : decode cL_errors 90 = .ok (.iload 4, 2) := by decide +kernel
theorem dL_errors_92 : decode cL_errors 92 = .ok (.if_icmp .ne 116, 3) := by decide +kernel
theorem dL_errors_95 : decode cL_errors 95 = .ok (.aload_n 0, 1) := by decide +kernel
theorem dL_errors_96 : decode cL_errors 96 = .ok (.iconst 0, 1) := by decide +kernel
theorem dL_errors_97 : decode cL_errors 97 = .ok (.iconst 0, 1) := by decide +kernel
theorem dL_errors_98 : decode cL_errors 98 = .ok (.iconst 0, 1) := by decide +kernel
theorem dL_errors_99 : decode cL_errors 99 = .ok (.iconst 0, 1) := by decide +kernel
theorem dL_errors_100 : decode cL_errors 100 = .ok (.iconst 1, 1) := by decide +kernel
theorem dL_errors_101 : decode cL_errors 101 = .ok (.sipush 1001, 3) := by decide +kernel
theorem dL_errors_104 : decode cL_errors 104 = .ok (.invokevirtual 94, 3) := by decide +kernel
theorem dL_errors_107 : decode cL_errors 107 = .ok (.iload 4, 2) := by decide +kernel
theorem dL_errors_109 : decode cL_errors 109 = .ok (.if_icmp .ne 99, 3) := by decide +kernel
theorem dL_errors_112 : decode cL_errors 112 = .ok (.aload_n 0, 1) := by decide +kernel
theorem dL_errors_113 : decode cL_errors 113 = .ok (.iload_n 2, 1) := by decide +kernel
theorem dL_errors_114 : decode cL_errors 114 = .ok (.iconst 0, 1) := by decide +kernel
theorem dL_errors_115 : decode cL_errors 115 = .ok (.iconst 5, 1) := by decide +kernel
theorem dL_errors_116 : decode cL_errors 116 = .ok (.iconst 4, 1) := by decide +kernel
theorem dL_errors_117 : decode cL_errors 117 = .ok (.invokevirtual 98, 3) := by decide +kernel
theorem dL_errors_120 : decode cL_errors 120 = .ok (.iload_n 3, 1) := by decide +kernel
theorem dL_errors_121 : decode cL_errors 121 = .ok (.if_icmp .ne 87, 3) := by decide +kernel
theorem dL_errors_124 : decode cL_errors 124 = .ok (.aload_n 0, 1) := by decide +kernel
theorem dL_errors_125 : decode cL_errors 125 = .ok (.iconst 0, 1) := by decide +kernel
theorem dL_errors_126 : decode cL_errors 126 = .ok (.iconst 1, 1) := by decide +kernel
theorem dL_errors_127 : decode cL_errors 127 = .ok (.iconst 5, 1) := by decide +kernel
theorem dL_errors_128 : decode cL_errors 128 = .ok (.iconst 4, 1) := by decide +kernel
theorem dL_errors_129 : decode cL_errors 129 = .ok (.invokevirtual 98, 3) := by decide +kernel
theorem dL_errors_132 : decode cL_errors 132 = .ok (.iload 4, 2) := by decide +kernel
theorem dL_errors_134 : decode cL_errors 134 = .ok (.if_icmp .ne 74, 3) := by decide +kernel
theorem dL_errors_137 : decode cL_errors 137 = .ok (.aload_n 0, 1) := by decide +kernel
theorem dL_errors_138 : decode cL_errors 138 = .ok (.iload_n 2, 1) := by decide +kernel
theorem dL_errors_139 : decode cL_errors 139 = .ok (.iconst (-1), 1) := by decide +kernel
theorem dL_errors_140 : decode cL_errors 140 = .ok (.invokevirtual 102, 3) := by decide +kernel
theorem dL_errors_143 : decode cL_errors 143 = .ok (.iload_n 3, 1) := by decide +kernel
theorem dL_errors_144 : decode cL_errors 144 = .ok (.if_icmp .ne 64, 3) := by decide +kernel
theorem dL_errors_147 : decode cL_errors 147 = .ok (.aload_n 0, 1) := by decide +kernel
theorem dL_errors_148 : decode cL_errors 148 = .ok (.iconst 0, 1) := by decide +kernel
theorem dL_errors_149 : decode cL_errors 149 = .ok (.sipush 1001, 3) := by decide +kernel
theorem dL_errors_152 : decode cL_errors 152 = .ok (.invokevirtual 102, 3) := by decide +kernel
theorem dL_errors_155 : decode cL_errors 155 = .ok (.iload 4, 2) := by decide +kernel
theorem dL_errors_157 : decode cL_errors 157 = .ok (.if_icmp .ne 51, 3) := by decide +kernel
theorem dL_errors_160 : decode cL_errors 160 = .ok (.aload_n 0, 1) := by decide +kernel
theorem dL_errors_161 : decode cL_errors 161 = .ok (.iconst (-1), 1) := by decide +kernel
theorem dL_errors_162 : decode cL_errors 162 = .ok (.iconst 0, 1) := by decide +kernel
theorem dL_errors_163 : decode cL_errors 163 = .ok (.invokevirtual 105, 3) := by decide +kernel
theorem dL_errors_166 : decode cL_errors 166 = .ok (.iload_n 3, 1) := by decide +kernel
theorem dL_errors_167 : decode cL_errors 167 = .ok (.if_icmp .ne 41, 3) := by decide +kernel
theorem dL_errors_170 : decode cL_errors 170 = .ok (.aload_n 0, 1) := by decide +kernel
theorem dL_errors_171 : decode cL_errors 171 = .ok (.iconst 0, 1) := by decide +kernel
theorem dL_errors_172 : decode cL_errors 172 = .ok (.bipush 9, 2) := by decide +kernel
theorem dL_errors_174 : decode cL_errors 174 = .ok (.invokevirtual 105, 3) := by decide +kernel
theorem dL_errors_177 : decode cL_errors 177 = .ok (.iload 4, 2) := by decide +kernel
theorem dL_errors_179 : decode cL_errors 179 = .ok (.if_icmp .ne 29, 3) := by decide +kernel
theorem dL_errors_182 : decode cL_errors 182 = .ok (.aload_n 0, 1) := by decide +kernel
theorem dL_errors_183 : decode cL_errors 183 = .ok (.bipush 11, 2) := by decide +kernel
theorem dL_errors_185 : decode cL_errors 185 = .ok (.invokevirtual 108, 3) := by decide +kernel
theorem dL_errors_188 : decode cL_errors 188 = .ok (.iload 4, 2) := by decide +kernel
theorem dL_errors_190 : decode cL_errors 190 = .ok (.if_icmp .ne 18, 3) := by decide +kernel
theorem dL_errors_193 : decode cL_errors 193 = .ok (.aload_n 0, 1) := by decide +kernel
theorem dL_errors_194 : decode cL_errors 194 = .ok (.bipush 6, 2) := by decide +kernel
theorem dL_errors_196 : decode cL_errors 196 = .ok (.invokevirtual 25, 3) := by decide +kernel
theorem dL_errors_199 : decode cL_errors 199 = .ok (.iload 4, 2) := by decide +kernel
theorem dL_errors_201 : decode cL_errors 201 = .ok (.if_icmp .ne 7, 3) := by decide +kernel
theorem dL_errors_204 : decode cL_errors 204 = .ok (.iconst 1, 1) := by decide +kernel
theorem dL_errors_205 : decode cL_errors 205 = .ok (.goto 4, 3) := by decide +kernel
theorem dL_errors_208 : decode cL_errors 208 = .ok (.iconst 0, 1) := by decide +kernel
theorem dL_errors_209 : decode cL_errors 209 = .ok (.istore 5, 2) := by decide +kernel
theorem dL_errors_211 : decode cL_errors 211 = .ok (.iload 5, 2) := by decide +kernel
theorem dL_errors_213 : decode cL_errors 213 = .ok (.ifCond .eq 202, 3) := by decide +kernel
theorem dL_errors_216 : decode cL_errors 216 = .ok (.aload_n 0, 1) := by decide +kernel
theorem dL_errors_217 : decode cL_errors 217 = .ok (.iload_n 2, 1) := by decide +kernel
theorem dL_errors_218 : decode cL_errors 218 = .ok (.bipush 9, 2) := by decide +kernel
theorem dL_errors_220 : decode cL_errors 220 = .ok (.invokevirtual 36, 3) := by decide +kernel
theorem dL_errors_223 : decode cL_errors 223 = .ok (.iload_n 3, 1) := by decide +kernel
theorem dL_errors_224 : decode cL_errors 224 = .ok (.if_icmp .ne 191, 3) := by decide +kernel
theorem dL_errors_227 : decode cL_errors 227 = .ok (.aload_n 0, 1) := by decide +kernel
theorem dL_errors_228 : decode cL_errors 228 = .ok (.iconst 0, 1) := by decide +kernel
theorem dL_errors_229 : decode cL_errors 229 = .ok (.bipush 8, 2) := by decide +kernel
theorem dL_errors_231 : decode cL_errors 231 = .ok (.invokevirtual 36, 3) := by decide +kernel
theorem dL_errors_234 : decode cL_errors 234 = .ok (.iload 4, 2) := by decide +kernel
theorem dL_errors_236 : decode cL_errors 236 = .ok (.if_icmp .ne 179, 3) := by decide +kernel
theorem dL_errors_239 : decode cL_errors 239 = .ok (.aload_n 0, 1) := by decide +kernel
theorem dL_errors_240 : decode cL_errors 240 = .ok (.iload_n 1, 1) := by decide +kernel
theorem dL_errors_241 : decode cL_errors 241 = .ok (.bipush 9, 2) := by decide +kernel
theorem dL_errors_243 : decode cL_errors 243 = .ok (.invokevirtual 21, 3) := by decide +kernel
theorem dL_errors_246 : decode cL_errors 246 = .ok (.iload_n 3, 1) := by decide +kernel
theorem dL_errors_247 : decode cL_errors 247 = .ok (.if_icmp .ne 168, 3) := by decide +kernel
theorem dL_errors_250 : decode cL_errors 250 = .ok (.aload_n 0, 1) := by decide +kernel
theorem dL_errors_251 : decode cL_errors 251 = .ok (.iconst 0, 1) := by decide +kernel
theorem dL_errors_252 : decode cL_errors 252 = .ok (.bipush 7, 2) := by decide +kernel
theorem dL_errors_254 : decode cL_errors 254 = .ok (.invokevirtual 21, 3) := by decide +kernel
theorem dL_errors_257 : decode cL_errors 257 = .ok (.iload 4, 2) := by decide +kernel
theorem dL_errors_259 : decode cL_errors 259 = .ok (.if_icmp .ne 156, 3) := by decide +kernel
theorem dL_errors_262 : decode cL_errors 262 = .ok (.aload_n 0, 1) := by decide +kernel
theorem dL_errors_263 : decode cL_errors 263 = .ok (.iload_n 1, 1) := by decide +kernel
theorem dL_errors_264 : decode cL_errors 264 = .ok (.iconst 0, 1) := by decide +kernel
theorem dL_errors_265 : decode cL_errors 265 = .ok (.bipush 9, 2) := by decide +kernel
theorem dL_errors_267 : decode cL_errors 267 = .ok (.invokevirtual 15, 3) := by decide +kernel
theorem dL_errors_270 : decode cL_errors 270 = .ok (.iload_n 3, 1) := by decide +kernel
theorem dL_errors_271 : decode cL_errors 271 = .ok (.if_icmp .ne 144, 3) := by decide +kernel
theorem dL_errors_274 : decode cL_errors 274 = .ok (.aload_n 0, 1) := by decide +kernel
theorem dL_errors_275 : decode cL_errors 275 = .ok (.iconst 0, 1) := by decide +kernel
theorem dL_errors_276 : decode cL_errors 276 = .ok (.iconst (-1), 1) := by decide +kernel
theorem dL_errors_277 : decode cL_errors 277 = .ok (.iconst 0, 1) := by decide +kernel
theorem dL_errors_278 : decode cL_errors 278 = .ok (.invokevirtual 15, 3) := by decide +kernel
theorem dL_errors_281 : decode cL_errors 281 = .ok (.iload_n 3, 1) := by decide +kernel
theorem dL_errors_282 : decode cL_errors 282 = .ok (.if_icmp .ne 133, 3) := by decide +kernel
theorem dL_errors_285 : decode cL_errors 285 = .ok (.aload_n 0, 1) := by decide +kernel
theorem dL_errors_286 : decode cL_errors 286 = .ok (.iload_n 2, 1) := by decide +kernel
theorem dL_errors_287 : decode cL_errors 287 = .ok (.iconst 1, 1) := by decide +kernel
theorem dL_errors_288 : decode cL_errors 288 = .ok (.invokevirtual 39, 3) := by decide +kernel
theorem dL_errors_291 : decode cL_errors 291 = .ok (.iload_n 3, 1) := by decide +kernel
theorem dL_errors_292 : decode cL_errors 292 = .ok (.if_icmp .ne 123, 3) := by decide +kernel
theorem dL_errors_295 : decode cL_errors 295 = .ok (.aload_n 0, 1) := by decide +kernel
theorem dL_errors_296 : decode cL_errors 296 = .ok (.iconst (-1), 1) := by decide +kernel
theorem dL_errors_297 : decode cL_errors 297 = .ok (.iconst 1, 1) := by decide +kernel
theorem dL_errors_298 : decode cL_errors 298 = .ok (.invokevirtual 43, 3) := by decide +kernel
theorem dL_errors_301 : decode cL_errors 301 = .ok (.iload_n 3, 1) := by decide +kernel
theorem dL_errors_302 : decode cL_errors 302 = .ok (.if_icmp .ne 113, 3) := by decide +kernel
theorem dL_errors_305 : decode cL_errors 305 = .ok (.aload_n 0, 1) := by decide +kernel
theorem dL_errors_306 : decode cL_errors 306 = .ok (.iload_n 2, 1) := by decide +kernel
theorem dL_errors_307 : decode cL_errors 307 = .ok (.iconst 0, 1) := by decide +kernel
theorem dL_errors_308 : decode cL_errors 308 = .ok (.iconst (-1), 1) := by decide +kernel
theorem dL_errors_309 : decode cL_errors 309 = .ok (.iconst 0, 1) := by decide +kernel
theorem dL_errors_310 : decode cL_errors 310 = .ok (.invokevirtual 51, 3) := by decide +kernel
theorem dL_errors_313 : decode cL_errors 313 = .ok (.iload_n 3, 1) := by decide +kernel
theorem dL_errors_314 : decode cL_errors 314 = .ok (.if_icmp .ne 101, 3) := by decide +kernel
theorem dL_errors_317 : decode cL_errors 317 = .ok (.aload_n 0, 1) := by decide +kernel
theorem dL_errors_318 : decode cL_errors 318 = .ok (.iconst 0, 1) := by decide +kernel
theorem dL_errors_319 : decode cL_errors 319 = .ok (.iload_n 1, 1) := by decide +kernel
theorem dL_errors_320 : decode cL_errors 320 = .ok (.iconst (-1), 1) := by decide +kernel
theorem dL_errors_321 : decode cL_errors 321 = .ok (.iconst 0, 1) := by decide +kernel
theorem dL_errors_322 : decode cL_errors 322 = .ok (.invokevirtual 51, 3) := by decide +kernel
theorem dL_errors_325 : decode cL_errors 325 = .ok (.iload_n 3, 1) := by decide +kernel
theorem dL_errors_326 : decode cL_errors 326 = .ok (.if_icmp .ne 89, 3) := by decide +kernel
theorem dL_errors_329 : decode cL_errors 329 = .ok (.aload_n 0, 1) := by decide +kernel
theorem dL_errors_330 : decode cL_errors 330 = .ok (.iconst 0, 1) := by decide +kernel
theorem dL_errors_331 : decode cL_errors 331 = .ok (.iconst 0, 1) := by decide +kernel
theorem dL_errors_332 : decode cL_errors 332 = .ok (.iconst (-1), 1) := by decide +kernel
theorem dL_errors_333 : decode cL_errors 333 = .ok (.iconst 0, 1) := by decide +kernel
theorem dL_errors_334 : decode cL_errors 334 = .ok (.invokevirtual 51, 3) := by decide +kernel
theorem dL_errors_337 : decode cL_errors 337 = .ok (.iload 4, 2) := by decide +kernel
theorem dL_errors_339 : decode cL_errors 339 = .ok (.if_icmp .ne 76, 3) := by decide +kernel
theorem dL_errors_342 : decode cL_errors 342 = .ok (.aload_n 0, 1) := by decide +kernel
theorem dL_errors_343 : decode cL_errors 343 = .ok (.iconst 0, 1) := by decide +kernel
theorem dL_errors_344 : decode cL_errors 344 = .ok (.iconst 0, 1) := by decide +kernel
theorem dL_errors_345 : decode cL_errors 345 = .ok (.iconst 2, 1) := by decide +kernel
theorem dL_errors_346 : decode cL_errors 346 = .ok (.iconst 2, 1) := by decide +kernel
theorem dL_errors_347 : decode cL_errors 347 = .ok (.invokevirtual 77, 3) := by decide +kernel
theorem dL_errors_350 : decode cL_errors 350 = .ok (.iload 4, 2) := by decide +kernel
theorem dL_errors_352 : decode cL_errors 352 = .ok (.if_icmp .ne 63, 3) := by decide +kernel
theorem dL_errors_355 : decode cL_errors 355 = .ok (.aload_n 0, 1) := by decide +kernel
theorem dL_errors_356 : decode cL_errors 356 = .ok (.iconst 0, 1) := by decide +kernel
theorem dL_errors_357 : decode cL_errors 357 = .ok (.iload_n 1, 1) := by decide +kernel
theorem dL_errors_358 : decode cL_errors 358 = .ok (.invokevirtual 55, 3) := by decide +kernel
theorem dL_errors_361 : decode cL_errors 361 = .ok (.iload_n 3, 1) := by decide +kernel
theorem dL_errors_362 : decode cL_errors 362 = .ok (.if_icmp .ne 53, 3) := by decide +kernel
theorem dL_errors_365 : decode cL_errors 365 = .ok (.aload_n 0, 1) := by decide +kernel
theorem dL_errors_366 : decode cL_errors 366 = .ok (.iload_n 2, 1) := by decide +kernel
theorem dL_errors_367 : decode cL_errors 367 = .ok (.iconst 0, 1) := by decide +kernel
theorem dL_errors_368 : decode cL_errors 368 = .ok (.invokevirtual 74, 3) := by decide +kernel
theorem dL_errors_371 : decode cL_errors 371 = .ok (.iload_n 3, 1) := by decide +kernel
theorem dL_errors_372 : decode cL_errors 372 = .ok (.if_icmp .ne 43, 3) := by decide +kernel
theorem dL_errors_375 : decode cL_errors 375 = .ok (.aload_n 0, 1) := by decide +kernel
theorem dL_errors_376 : decode cL_errors 376 = .ok (.iload_n 2, 1) := by decide +kernel
theorem dL_errors_377 : decode cL_errors 377 = .ok (.invokevirtual 71, 3) := by decide +kernel
theorem dL_errors_380 : decode cL_errors 380 = .ok (.iload_n 3, 1) := by decide +kernel
theorem dL_errors_381 : decode cL_errors 381 = .ok (.if_icmp .ne 34, 3) := by decide +kernel
theorem dL_errors_384 : decode cL_errors 384 = .ok (.aload_n 0, 1) := by decide +kernel
theorem dL_errors_385 : decode cL_errors 385 = .ok (.iconst (-1), 1) := by decide +kernel
theorem dL_errors_386 : decode cL_errors 386 = .ok (.invokevirtual 111, 3) := by decide +kernel
theorem dL_errors_389 : decode cL_errors 389 = .ok (.iload_n 3, 1) := by decide +kernel
theorem dL_errors_390 : decode cL_errors 390 = .ok (.if_icmp .ne 25, 3) := by decide +kernel
theorem dL_errors_393 : decode cL_errors 393 = .ok (.aload_n 0, 1) := by decide +kernel
theorem dL_errors_394 : decode cL_errors 394 = .ok (.iload_n 2, 1) := by decide +kernel
theorem dL_errors_395 : decode cL_errors 395 = .ok (.invokevirtual 80, 3) := by decide +kernel
theorem dL_errors_398 : decode cL_errors 398 = .ok (.iload_n 3, 1) := by decide +kernel
theorem dL_errors_399 : decode cL_errors 399 = .ok (.if_icmp .ne 16, 3) := by decide +kernel
theorem dL_errors_402 : decode cL_errors 402 = .ok (.aload_n 0, 1) := by decide +kernel
theorem dL_errors_403 : decode cL_errors 403 = .ok (.iconst (-1), 1) := by decide +kernel
theorem dL_errors_404 : decode cL_errors 404 = .ok (.invokevirtual 87, 3) := by decide +kernel
theorem dL_errors_407 : decode cL_errors 407 = .ok (.iload_n 3, 1) := by decide +kernel
theorem dL_errors_408 : decode cL_errors 408 = .ok (.if_icmp .ne 7, 3) := by decide +kernel
theorem dL_errors_411 : decode cL_errors 411 = .ok (.iconst 1, 1) := by decide +kernel
theorem dL_errors_412 : decode cL_errors 412 = .ok (.goto 4, 3) := by decide +kernel
theorem dL_errors_415 : decode cL_errors 415 = .ok (.iconst 0, 1) := by decide +kernel
theorem dL_errors_416 : decode cL_errors 416 = .ok (.ireturn, 1) := by decide +kernel
theorem dL_law_0 : decode cL_law 0 = .ok (.new 16, 3) := by decide +kernel
theorem dL_law_3 : decode cL_law 3 = .ok (.dup, 1) := by decide +kernel
theorem dL_law_4 : decode cL_law 4 = .ok (.invokespecial 114, 3) := by decide +kernel
theorem dL_law_7 : decode cL_law 7 = .ok (.astore_n 1, 1) := by decide +kernel
theorem dL_law_8 : decode cL_law 8 = .ok (.bipush 64, 2) := by decide +kernel
theorem dL_law_10 : decode cL_law 10 = .ok (.newarray .int, 2) := by decide +kernel
theorem dL_law_12 : decode cL_law 12 = .ok (.astore_n 2, 1) := by decide +kernel
theorem dL_law_13 : decode cL_law 13 = .ok (.aload_n 1, 1) := by decide +kernel
theorem dL_law_14 : decode cL_law 14 = .ok (.iconst 4, 1) := by decide +kernel
theorem dL_law_15 : decode cL_law 15 = .ok (.invokevirtual 25, 3) := by decide +kernel
theorem dL_law_18 : decode cL_law 18 = .ok (.iconst 1, 1) := by decide +kernel
theorem dL_law_19 : decode cL_law 19 = .ok (.if_icmp .ne 31, 3) := by decide +kernel
theorem dL_law_22 : decode cL_law 22 = .ok (.aload_n 1, 1) := by decide +kernel
theorem dL_law_23 : decode cL_law 23 = .ok (.invokevirtual 115, 3) := by decide +kernel
theorem dL_law_26 : decode cL_law 26 = .ok (.sipush (-1007), 3) := by decide +kernel
theorem dL_law_29 : decode cL_law 29 = .ok (.if_icmp .ne 21, 3) := by decide +kernel
theorem dL_law_32 : decode cL_law 32 = .ok (.aload_n 1, 1) := by decide +kernel
theorem dL_law_33 : decode cL_law 33 = .ok (.invokevirtual 119, 3) := by decide +kernel
theorem dL_law_36 : decode cL_law 36 = .ok (.sipush (-1007), 3) := by decide +kernel
theorem dL_law_39 : decode cL_law 39 = .ok (.if_icmp .ne 11, 3) := by decide +kernel
theorem dL_law_42 : decode cL_law 42 = .ok (.aload_n 1, 1) := by decide +kernel
theorem dL_law_43 : decode cL_law 43 = .ok (.iconst 3, 1) := by decide +kernel
theorem dL_law_44 : decode cL_law 44 = .ok (.invokevirtual 25, 3) := by decide +kernel
theorem dL_law_47 : decode cL_law 47 = .ok (.ifCond .eq 5, 3) := by decide +kernel
theorem dL_law_50 : decode cL_law 50 = .ok (.iconst 0, 1) := by decide +kernel
theorem dL_law_51 : decode cL_law 51 = .ok (.ireturn, 1) := by decide +kernel
theorem dL_law_52 : decode cL_law 52 = .ok (.iconst 1, 1) := by decide +kernel
theorem dL_law_53 : decode cL_law 53 = .ok (.aload_n 0, 1) := by decide +kernel
theorem dL_law_54 : decode cL_law 54 = .ok (.iconst 0, 1) := by decide +kernel
theorem dL_law_55 : decode cL_law 55 = .ok (.invokestatic 122, 3) := by decide +kernel
theorem dL_law_58 : decode cL_law 58 = .ok (.iconst 4, 1) := by decide +kernel
theorem dL_law_59 : decode cL_law 59 = .ok (.invokestatic 66, 3) := by decide +kernel
theorem dL_law_62 : decode cL_law 62 = .ok (.iadd, 1) := by decide +kernel
theorem dL_law_63 : decode cL_law 63 = .ok (.istore_n 3, 1) := by decide +kernel
theorem dL_law_64 : decode cL_law 64 = .ok (.iconst 0, 1) := by decide +kernel
theorem dL_law_65 : decode cL_law 65 = .ok (.istore 4, 2) := by decide +kernel
theorem dL_law_67 : decode cL_law 67 = .ok (.iload 4, 2) := by decide +kernel
theorem dL_law_69 : decode cL_law 69 = .ok (.iload_n 3, 1) := by decide +kernel
theorem dL_law_70 : decode cL_law 70 = .ok (.if_icmp .ge 127, 3) := by decide +kernel
theorem dL_law_73 : decode cL_law 73 = .ok (.aload_n 0, 1) := by decide +kernel
theorem dL_law_74 : decode cL_law 74 = .ok (.iconst 1, 1) := by decide +kernel
theorem dL_law_75 : decode cL_law 75 = .ok (.iload 4, 2) := by decide +kernel
theorem dL_law_77 : decode cL_law 77 = .ok (.iadd, 1) := by decide +kernel
theorem dL_law_78 : decode cL_law 78 = .ok (.invokestatic 122, 3) := by decide +kernel
theorem dL_law_81 : decode cL_law 81 = .ok (.istore 5, 2) := by decide +kernel
theorem dL_law_83 : decode cL_law 83 = .ok (.aload_n 2, 1) := by decide +kernel
theorem dL_law_84 : decode cL_law 84 = .ok (.bipush 48, 2) := by decide +kernel
theorem dL_law_86 : decode cL_law 86 = .ok (.iconst 2, 1) := by decide +kernel
theorem dL_law_87 : decode cL_law 87 = .ok (.iload 4, 2) := by decide +kernel
theorem dL_law_89 : decode cL_law 89 = .ok (.imul, 1) := by decide +kernel
theorem dL_law_90 : decode cL_law 90 = .ok (.iadd, 1) := by decide +kernel
theorem dL_law_91 : decode cL_law 91 = .ok (.iload 5, 2) := by decide +kernel
theorem dL_law_93 : decode cL_law 93 = .ok (.bipush 40, 2) := by decide +kernel
theorem dL_law_95 : decode cL_law 95 = .ok (.invokestatic 66, 3) := by decide +kernel
theorem dL_law_98 : decode cL_law 98 = .ok (.iastore, 1) := by decide +kernel
theorem dL_law_99 : decode cL_law 99 = .ok (.aload_n 2, 1) := by decide +kernel
theorem dL_law_100 : decode cL_law 100 = .ok (.bipush 49, 2) := by decide +kernel
theorem dL_law_102 : decode cL_law 102 = .ok (.iconst 2, 1) := by decide +kernel
theorem dL_law_103 : decode cL_law 103 = .ok (.iload 4, 2) := by decide +kernel
theorem dL_law_105 : decode cL_law 105 = .ok (.imul, 1) := by decide +kernel
theorem dL_law_106 : decode cL_law 106 = .ok (.iadd, 1) := by decide +kernel
theorem dL_law_107 : decode cL_law 107 = .ok (.iload 5, 2) := by decide +kernel
theorem dL_law_109 : decode cL_law 109 = .ok (.bipush 6, 2) := by decide +kernel
theorem dL_law_111 : decode cL_law 111 = .ok (.ishr, 1) := by decide +kernel
theorem dL_law_112 : decode cL_law 112 = .ok (.bipush 40, 2) := by decide +kernel
theorem dL_law_114 : decode cL_law 114 = .ok (.invokestatic 66, 3) := by decide +kernel
theorem dL_law_117 : decode cL_law 117 = .ok (.iastore, 1) := by decide +kernel
theorem dL_law_118 : decode cL_law 118 = .ok (.iload 5, 2) := by decide +kernel
theorem dL_law_120 : decode cL_law 120 = .ok (.bipush 12, 2) := by decide +kernel
theorem dL_law_122 : decode cL_law 122 = .ok (.ishr, 1) := by decide +kernel
theorem dL_law_123 : decode cL_law 123 = .ok (.bipush 100, 2) := by decide +kernel
theorem dL_law_125 : decode cL_law 125 = .ok (.invokestatic 66, 3) := by decide +kernel
theorem dL_law_128 : decode cL_law 128 = .ok (.istore 6, 2) := by decide +kernel
theorem dL_law_130 : decode cL_law 130 = .ok (.aload_n 1, 1) := by decide +kernel
theorem dL_law_131 : decode cL_law 131 = .ok (.aload_n 2, 1) := by decide +kernel
theorem dL_law_132 : decode cL_law 132 = .ok (.bipush 48, 2) := by decide +kernel
theorem dL_law_134 : decode cL_law 134 = .ok (.iconst 2, 1) := by decide +kernel
theorem dL_law_135 : decode cL_law 135 = .ok (.iload 4, 2) := by decide +kernel
theorem dL_law_137 : decode cL_law 137 = .ok (.imul, 1) := by decide +kernel
theorem dL_law_138 : decode cL_law 138 = .ok (.iadd, 1) := by decide +kernel
theorem dL_law_139 : decode cL_law 139 = .ok (.iaload, 1) := by decide +kernel
theorem dL_law_140 : decode cL_law 140 = .ok (.aload_n 2, 1) := by decide +kernel
theorem dL_law_141 : decode cL_law 141 = .ok (.bipush 49, 2) := by decide +kernel
theorem dL_law_143 : decode cL_law 143 = .ok (.iconst 2, 1) := by decide +kernel
theorem dL_law_144 : decode cL_law 144 = .ok (.iload 4, 2) := by decide +kernel
theorem dL_law_146 : decode cL_law 146 = .ok (.imul, 1) := by decide +kernel
theorem dL_law_147 : decode cL_law 147 = .ok (.iadd, 1) := by decide +kernel
theorem dL_law_148 : decode cL_law 148 = .ok (.iaload, 1) := by decide +kernel
theorem dL_law_149 : decode cL_law 149 = .ok (.iconst 1, 1) := by decide +kernel
theorem dL_law_150 : decode cL_law 150 = .ok (.iload 5, 2) := by decide +kernel
theorem dL_law_152 : decode cL_law 152 = .ok (.bipush 19, 2) := by decide +kernel
theorem dL_law_154 : decode cL_law 154 = .ok (.ishr, 1) := by decide +kernel
theorem dL_law_155 : decode cL_law 155 = .ok (.bipush 6, 2) := by decide +kernel
theorem dL_law_157 : decode cL_law 157 = .ok (.invokestatic 66, 3) := by decide +kernel
theorem dL_law_160 : decode cL_law 160 = .ok (.iadd, 1) := by decide +kernel
theorem dL_law_161 : decode cL_law 161 = .ok (.iload 6, 2) := by decide +kernel
theorem dL_law_163 : decode cL_law 163 = .ok (.iload 6, 2) := by decide +kernel
theorem dL_law_165 : decode cL_law 165 = .ok (.sipush 200, 3) := by decide +kernel
theorem dL_law_168 : decode cL_law 168 = .ok (.iadd, 1) := by decide +kernel
theorem dL_law_169 : decode cL_law 169 = .ok (.iload 5, 2) := by decide +kernel
theorem dL_law_171 : decode cL_law 171 = .ok (.bipush 22, 2) := by decide +kernel
theorem dL_law_173 : decode cL_law 173 = .ok (.ishr, 1) := by decide +kernel
theorem dL_law_174 : decode cL_law 174 = .ok (.sipush 400, 3) := by decide +kernel
theorem dL_law_177 : decode cL_law 177 = .ok (.invokestatic 66, 3) := by decide +kernel
theorem dL_law_180 : decode cL_law 180 = .ok (.iadd, 1) := by decide +kernel
theorem dL_law_181 : decode cL_law 181 = .ok (.invokevirtual 90, 3) := by decide +kernel
theorem dL_law_184 : decode cL_law 184 = .ok (.iload 4, 2) := by decide +kernel
theorem dL_law_186 : decode cL_law 186 = .ok (.if_icmp .eq 5, 3) := by decide +kernel
theorem dL_law_189 : decode cL_law 189 = .ok (.iconst 0, 1) := by decide +kernel
theorem dL_law_190 : decode cL_law 190 = .ok (.ireturn, 1) := by decide +kernel
theorem dL_law_191 : decode cL_law 191 = .ok (.iinc 4 1, 3) := by decide +kernel
theorem dL_law_194 : decode cL_law 194 = .ok (.goto (-127), 3) := by decide +kernel
theorem dL_law_197 : decode cL_law 197 = .ok (.iconst 2, 1) := by decide +kernel
theorem dL_law_198 : decode cL_law 198 = .ok (.aload_n 0, 1) := by decide +kernel
theorem dL_law_199 : decode cL_law 199 = .ok (.iconst 5, 1) := by decide +kernel
theorem dL_law_200 : decode cL_law 200 = .ok (.invokestatic 122, 3) := by decide +kernel
theorem dL_law_203 : decode cL_law 203 = .ok (.bipush 7, 2) := by decide +kernel
theorem dL_law_205 : decode cL_law 205 = .ok (.invokestatic 66, 3) := by decide +kernel
theorem dL_law_208 : decode cL_law 208 = .ok (.iadd, 1) := by decide +kernel
theorem dL_law_209 : decode cL_law 209 = .ok (.istore 4, 2) := by decide +kernel
theorem dL_law_211 : decode cL_law 211 = .ok (.iconst 0, 1) := by decide +kernel
theorem dL_law_212 : decode cL_law 212 = .ok (.istore 5, 2) := by decide +kernel
theorem dL_law_214 : decode cL_law 214 = .ok (.iload 5, 2) := by decide +kernel
theorem dL_law_216 : decode cL_law 216 = .ok (.iload 4, 2) := by decide +kernel
theorem dL_law_218 : decode cL_law 218 = .ok (.if_icmp .ge 187, 3) := by decide +kernel
theorem dL_law_221 : decode cL_law 221 = .ok (.aload_n 0, 1) := by decide +kernel
theorem dL_law_222 : decode cL_law 222 = .ok (.bipush 6, 2) := by decide +kernel
theorem dL_law_224 : decode cL_law 224 = .ok (.iload 5, 2) := by decide +kernel
theorem dL_law_226 : decode cL_law 226 = .ok (.iadd, 1) := by decide +kernel
theorem dL_law_227 : decode cL_law 227 = .ok (.invokestatic 122, 3) := by decide +kernel
theorem dL_law_230 : decode cL_law 230 = .ok (.istore 6, 2) := by decide +kernel
theorem dL_law_232 : decode cL_law 232 = .ok (.aload_n 0, 1) := by decide +kernel
theorem dL_law_233 : decode cL_law 233 = .ok (.bipush 14, 2) := by decide +kernel
theorem dL_law_235 : decode cL_law 235 = .ok (.iload 5, 2) := by decide +kernel
theorem dL_law_237 : decode cL_law 237 = .ok (.iadd, 1) := by decide +kernel
theorem dL_law_238 : decode cL_law 238 = .ok (.invokestatic 122, 3) := by decide +kernel
theorem dL_law_241 : decode cL_law 241 = .ok (.istore 7, 2) := by decide +kernel
theorem dL_law_243 : decode cL_law 243 = .ok (.iconst 0, 1) := by decide +kernel
theorem dL_law_244 : decode cL_law 244 = .ok (.istore 8, 2) := by decide +kernel
theorem dL_law_246 : decode cL_law 246 = .ok (.iload 8, 2) := by decide +kernel
theorem dL_law_248 : decode cL_law 248 = .ok (.iconst 4, 1) := by decide +kernel
theorem dL_law_249 : decode cL_law 249 = .ok (.if_icmp .ge 31, 3) := by decide +kernel
theorem dL_law_252 : decode cL_law 252 = .ok (.aload_n 2, 1) := by decide +kernel
theorem dL_law_253 : decode cL_law 253 = .ok (.iconst 4, 1) := by decide +kernel
theorem dL_law_254 : decode cL_law 254 = .ok (.iload 5, 2) := by decide +kernel
theorem dL_law_256 : decode cL_law 256 = .ok (.imul, 1) := by decide +kernel
theorem dL_law_257 : decode cL_law 257 = .ok (.iload 8, 2) := by decide +kernel
theorem dL_law_259 : decode cL_law 259 = .ok (.iadd, 1) := by decide +kernel
theorem dL_law_260 : decode cL_law 260 = .ok (.iload 6, 2) := by decide +kernel
theorem dL_law_262 : decode cL_law 262 = .ok (.bipush 7, 2) := by decide +kernel
theorem dL_law_264 : decode cL_law 264 = .ok (.iload 8, 2) := by decide +kernel
theorem dL_law_266 : decode cL_law 266 = .ok (.imul, 1) := by decide +kernel
theorem dL_law_267 : decode cL_law 267 = .ok (.ishr, 1) := by decide +kernel
theorem dL_law_268 : decode cL_law 268 = .ok (.bipush 40, 2) := by decide +kernel
theorem dL_law_270 : decode cL_law 270 = .ok (.invokestatic 66, 3) := by decide +kernel
theorem dL_law_273 : decode cL_law 273 = .ok (.iastore, 1) := by decide +kernel
theorem dL_law_274 : decode cL_law 274 = .ok (.iinc 8 1, 3) := by decide +kernel
theorem dL_law_277 : decode cL_law 277 = .ok (.goto (-31), 3) := by decide +kernel
theorem dL_law_280 : decode cL_law 280 = .ok (.aload_n 1, 1) := by decide +kernel
theorem dL_law_281 : decode cL_law 281 = .ok (.aload_n 2, 1) := by decide +kernel
theorem dL_law_282 : decode cL_law 282 = .ok (.iconst 4, 1) := by decide +kernel
theorem dL_law_283 : decode cL_law 283 = .ok (.iload 5, 2) := by decide +kernel
theorem dL_law_285 : decode cL_law 285 = .ok (.imul, 1) := by decide +kernel
theorem dL_law_286 : decode cL_law 286 = .ok (.iaload, 1) := by decide +kernel
theorem dL_law_287 : decode cL_law 287 = .ok (.aload_n 2, 1) := by decide +kernel
theorem dL_law_288 : decode cL_law 288 = .ok (.iconst 4, 1) := by decide +kernel
theorem dL_law_289 : decode cL_law 289 = .ok (.iload 5, 2) := by decide +kernel
theorem dL_law_291 : decode cL_law 291 = .ok (.imul, 1) := by decide +kernel
theorem dL_law_292 : decode cL_law 292 = .ok (.iconst 1, 1) := by decide +kernel
theorem dL_law_293 : decode cL_law 293 = .ok (.iadd, 1) := by decide +kernel
theorem dL_law_294 : decode cL_law 294 = .ok (.iaload, 1) := by decide +kernel
theorem dL_law_295 : decode cL_law 295 = .ok (.aload_n 2, 1) := by decide +kernel
theorem dL_law_296 : decode cL_law 296 = .ok (.iconst 4, 1) := by decide +kernel
theorem dL_law_297 : decode cL_law 297 = .ok (.iload 5, 2) := by decide +kernel
theorem dL_law_299 : decode cL_law 299 = .ok (.imul, 1) := by decide +kernel
theorem dL_law_300 : decode cL_law 300 = .ok (.iconst 2, 1) := by decide +kernel
theorem dL_law_301 : decode cL_law 301 = .ok (.iadd, 1) := by decide +kernel
theorem dL_law_302 : decode cL_law 302 = .ok (.iaload, 1) := by decide +kernel
theorem dL_law_303 : decode cL_law 303 = .ok (.aload_n 2, 1) := by decide +kernel
theorem dL_law_304 : decode cL_law 304 = .ok (.iconst 4, 1) := by decide +kernel
theorem dL_law_305 : decode cL_law 305 = .ok (.iload 5, 2) := by decide +kernel
theorem dL_law_307 : decode cL_law 307 = .ok (.imul, 1) := by decide +kernel
theorem dL_law_308 : decode cL_law 308 = .ok (.iconst 3, 1) := by decide +kernel
theorem dL_law_309 : decode cL_law 309 = .ok (.iadd, 1) := by decide +kernel
theorem dL_law_310 : decode cL_law 310 = .ok (.iaload, 1) := by decide +kernel
theorem dL_law_311 : decode cL_law 311 = .ok (.iconst 1, 1) := by decide +kernel
theorem dL_law_312 : decode cL_law 312 = .ok (.iload 7, 2) := by decide +kernel
theorem dL_law_314 : decode cL_law 314 = .ok (.iconst 3, 1) := by decide +kernel
theorem dL_law_315 : decode cL_law 315 = .ok (.invokestatic 66, 3) := by decide +kernel
theorem dL_law_318 : decode cL_law 318 = .ok (.iadd, 1) := by decide +kernel
theorem dL_law_319 : decode cL_law 319 = .ok (.bipush 20, 2) := by decide +kernel
theorem dL_law_321 : decode cL_law 321 = .ok (.iload 7, 2) := by decide +kernel
theorem dL_law_323 : decode cL_law 323 = .ok (.iconst 2, 1) := by decide +kernel
theorem dL_law_324 : decode cL_law 324 = .ok (.ishr, 1) := by decide +kernel
theorem dL_law_325 : decode cL_law 325 = .ok (.sipush 150, 3) := by decide +kernel
theorem dL_law_328 : decode cL_law 328 = .ok (.invokestatic 66, 3) := by decide +kernel
theorem dL_law_331 : decode cL_law 331 = .ok (.iadd, 1) := by decide +kernel
theorem dL_law_332 : decode cL_law 332 = .ok (.invokevirtual 94, 3) := by decide +kernel
theorem dL_law_335 : decode cL_law 335 = .ok (.iload 5, 2) := by decide +kernel
theorem dL_law_337 : decode cL_law 337 = .ok (.if_icmp .eq 5, 3) := by decide +kernel
theorem dL_law_340 : decode cL_law 340 = .ok (.iconst 0, 1) := by decide +kernel
theorem dL_law_341 : decode cL_law 341 = .ok (.ireturn, 1) := by decide +kernel
theorem dL_law_342 : decode cL_law 342 = .ok (.iload 7, 2) := by decide +kernel
theorem dL_law_344 : decode cL_law 344 = .ok (.bipush 10, 2) := by decide +kernel
theorem dL_law_346 : decode cL_law 346 = .ok (.ishr, 1) := by decide +kernel
theorem dL_law_347 : decode cL_law 347 = .ok (.sipush 200, 3) := by decide +kernel
theorem dL_law_350 : decode cL_law 350 = .ok (.invokestatic 66, 3) := by decide +kernel
theorem dL_law_353 : decode cL_law 353 = .ok (.istore 8, 2) := by decide +kernel
theorem dL_law_355 : decode cL_law 355 = .ok (.aload_n 1, 1) := by decide +kernel
theorem dL_law_356 : decode cL_law 356 = .ok (.iload 5, 2) := by decide +kernel
theorem dL_law_358 : decode cL_law 358 = .ok (.iload 7, 2) := by decide +kernel
theorem dL_law_360 : decode cL_law 360 = .ok (.iconst 1, 1) := by decide +kernel
theorem dL_law_361 : decode cL_law 361 = .ok (.iand, 1) := by decide +kernel
theorem dL_law_362 : decode cL_law 362 = .ok (.iconst 1, 1) := by decide +kernel
theorem dL_law_363 : decode cL_law 363 = .ok (.if_icmp .ne 7, 3) := by decide +kernel
theorem dL_law_366 : decode cL_law 366 = .ok (.iconst 1, 1) := by decide +kernel
theorem dL_law_367 : decode cL_law 367 = .ok (.goto 4, 3) := by decide +kernel
theorem dL_law_370 : decode cL_law 370 = .ok (.iconst 0, 1) := by decide +kernel
theorem dL_law_371 : decode cL_law 371 = .ok (.iload 8, 2) := by decide +kernel
theorem dL_law_373 : decode cL_law 373 = .ok (.iload 8, 2) := by decide +kernel
theorem dL_law_375 : decode cL_law 375 = .ok (.bipush 30, 2) := by decide +kernel
theorem dL_law_377 : decode cL_law 377 = .ok (.iadd, 1) := by decide +kernel
theorem dL_law_378 : decode cL_law 378 = .ok (.iload 7, 2) := by decide +kernel
theorem dL_law_380 : decode cL_law 380 = .ok (.bipush 18, 2) := by decide +kernel
theorem dL_law_382 : decode cL_law 382 = .ok (.ishr, 1) := by decide +kernel
theorem dL_law_383 : decode cL_law 383 = .ok (.sipush 300, 3) := by decide +kernel
theorem dL_law_386 : decode cL_law 386 = .ok (.invokestatic 66, 3) := by decide +kernel
theorem dL_law_389 : decode cL_law 389 = .ok (.iadd, 1) := by decide +kernel
theorem dL_law_390 : decode cL_law 390 = .ok (.invokevirtual 98, 3) := by decide +kernel
theorem dL_law_393 : decode cL_law 393 = .ok (.iconst 1, 1) := by decide +kernel
theorem dL_law_394 : decode cL_law 394 = .ok (.if_icmp .eq 5, 3) := by decide +kernel
theorem dL_law_397 : decode cL_law 397 = .ok (.iconst 0, 1) := by decide +kernel
theorem dL_law_398 : decode cL_law 398 = .ok (.ireturn, 1) := by decide +kernel
theorem dL_law_399 : decode cL_law 399 = .ok (.iinc 5 1, 3) := by decide +kernel
theorem dL_law_402 : decode cL_law 402 = .ok (.goto (-188), 3) := by decide +kernel
theorem dL_law_405 : decode cL_law 405 = .ok (.iconst 0, 1) := by decide +kernel
theorem dL_law_406 : decode cL_law 406 = .ok (.istore 5, 2) := by decide +kernel
theorem dL_law_408 : decode cL_law 408 = .ok (.iconst 0, 1) := by decide +kernel
theorem dL_law_409 : decode cL_law 409 = .ok (.istore 6, 2) := by decide +kernel
theorem dL_law_411 : decode cL_law 411 = .ok (.iload 6, 2) := by decide +kernel
theorem dL_law_413 : decode cL_law 413 = .ok (.bipush 26, 2) := by decide +kernel
theorem dL_law_415 : decode cL_law 415 = .ok (.if_icmp .ge 857, 3) := by decide +kernel
theorem dL_law_418 : decode cL_law 418 = .ok (.aload_n 0, 1) := by decide +kernel
theorem dL_law_419 : decode cL_law 419 = .ok (.bipush 22, 2) := by decide +kernel
theorem dL_law_421 : decode cL_law 421 = .ok (.iload 6, 2) := by decide +kernel
theorem dL_law_423 : decode cL_law 423 = .ok (.iadd, 1) := by decide +kernel
theorem dL_law_424 : decode cL_law 424 = .ok (.invokestatic 122, 3) := by decide +kernel
theorem dL_law_427 : decode cL_law 427 = .ok (.istore 7, 2) := by decide +kernel
theorem dL_law_429 : decode cL_law 429 = .ok (.iload 7, 2) := by decide +kernel
theorem dL_law_431 : decode cL_law 431 = .ok (.bipush 14, 2) := by decide +kernel
theorem dL_law_433 : decode cL_law 433 = .ok (.invokestatic 66, 3) := by decide +kernel
theorem dL_law_436 : decode cL_law 436 = .ok (.istore 8, 2) := by decide +kernel
theorem dL_law_438 : decode cL_law 438 = .ok (.iload 7, 2) := by decide +kernel
theorem dL_law_440 : decode cL_law 440 = .ok (.iconst 4, 1) := by decide +kernel
theorem dL_law_441 : decode cL_law 441 = .ok (.ishr, 1) := by decide +kernel
theorem dL_law_442 : decode cL_law 442 = .ok (.iload 4, 2) := by decide +kernel
theorem dL_law_444 : decode cL_law 444 = .ok (.invokestatic 66, 3) := by decide +kernel
theorem dL_law_447 : decode cL_law 447 = .ok (.istore 9, 2) := by decide +kernel
theorem dL_law_449 : decode cL_law 449 = .ok (.aload_n 1, 1) := by decide +kernel
theorem dL_law_450 : decode cL_law 450 = .ok (.iload 9, 2) := by decide +kernel
theorem dL_law_452 : decode cL_law 452 = .ok (.iconst 0, 1) := by decide +kernel
theorem dL_law_453 : decode cL_law 453 = .ok (.invokevirtual 36, 3) := by decide +kernel
theorem dL_law_456 : decode cL_law 456 = .ok (.sipush (-1007), 3) := by decide +kernel
theorem dL_law_459 : decode cL_law 459 = .ok (.if_icmp .ne 7, 3) := by decide +kernel
theorem dL_law_462 : decode cL_law 462 = .ok (.iconst 1, 1) := by decide +kernel
theorem dL_law_463 : decode cL_law 463 = .ok (.goto 4, 3) := by decide +kernel
theorem dL_law_466 : decode cL_law 466 = .ok (.iconst 0, 1) := by decide +kernel
theorem dL_law_467 : decode cL_law 467 = .ok (.istore 10, 2) := by decide +kernel
theorem dL_law_469 : decode cL_law 469 = .ok (.aload_n 1, 1) := by decide +kernel
theorem dL_law_470 : decode cL_law 470 = .ok (.invokestatic 83, 3) := by decide +kernel
theorem dL_law_473 : decode cL_law 473 = .ok (.lstore 11, 2) := by decide +kernel
theorem dL_law_475 : decode cL_law 475 = .ok (.aload_n 1, 1) := by decide +kernel
theorem dL_law_476 : decode cL_law 476 = .ok (.iconst 5, 1) := by decide +kernel
theorem dL_law_477 : decode cL_law 477 = .ok (.invokevirtual 25, 3) := by decide +kernel
theorem dL_law_480 : decode cL_law 480 = .ok (.istore 13, 2) := by decide +kernel
theorem dL_law_482 : decode cL_law 482 = .ok (.iload 13, 2) := by decide +kernel
theorem dL_law_484 : decode cL_law 484 = .ok (.iload 5, 2) := by decide +kernel
theorem dL_law_486 : decode cL_law 486 = .ok (.if_icmp .eq 5, 3) := by decide +kernel
theorem dL_law_489 : decode cL_law 489 = .ok (.iconst 0, 1) := by decide +kernel
theorem dL_law_490 : decode cL_law 490 = .ok (.ireturn, 1) := by decide +kernel
theorem dL_law_491 : decode cL_law 491 = .ok (.iload 8, 2) := by decide +kernel
theorem dL_law_493 : decode cL_law 493 = .ok (.bipush 6, 2) := by decide +kernel
theorem dL_law_495 : decode cL_law 495 = .ok (.if_icmp .ge 79, 3) := by decide +kernel
theorem dL_law_498 : decode cL_law 498 = .ok (.iload 10, 2) := by decide +kernel
theorem dL_law_500 : decode cL_law 500 = .ok (.ifCond .eq 20, 3) := by decide +kernel
theorem dL_law_503 : decode cL_law 503 = .ok (.aload_n 1, 1) := by decide +kernel
theorem dL_law_504 : decode cL_law 504 = .ok (.iload 9, 2) := by decide +kernel
theorem dL_law_506 : decode cL_law 506 = .ok (.iload 7, 2) := by decide +kernel
theorem dL_law_508 : decode cL_law 508 = .ok (.bipush 8, 2) := by decide +kernel
theorem dL_law_510 : decode cL_law 510 = .ok (.ishr, 1) := by decide +kernel
theorem dL_law_511 : decode cL_law 511 = .ok (.invokestatic 126, 3) := by decide +kernel
theorem dL_law_514 : decode cL_law 514 = .ok (.ifCond .ne 636, 3) := by decide +kernel
theorem dL_law_517 : decode cL_law 517 = .ok (.goto 55, 3) := by decide +kernel
theorem dL_law_520 : decode cL_law 520 = .ok (.aload_n 1, 1) := by decide +kernel
theorem dL_law_521 : decode cL_law 521 = .ok (.iload 9, 2) := by decide +kernel
theorem dL_law_523 : decode cL_law 523 = .ok (.invokevirtual 71, 3) := by decide +kernel
theorem dL_law_526 : decode cL_law 526 = .ok (.sipush (-1003), 3) := by decide +kernel
theorem dL_law_529 : decode cL_law 529 = .ok (.if_icmp .ne 43, 3) := by decide +kernel
theorem dL_law_532 : decode cL_law 532 = .ok (.aload_n 1, 1) := by decide +kernel
theorem dL_law_533 : decode cL_law 533 = .ok (.iload 9, 2) := by decide +kernel
theorem dL_law_535 : decode cL_law 535 = .ok (.iconst 0, 1) := by decide +kernel
theorem dL_law_536 : decode cL_law 536 = .ok (.iconst 0, 1) := by decide +kernel
theorem dL_law_537 : decode cL_law 537 = .ok (.iconst 1, 1) := by decide +kernel
theorem dL_law_538 : decode cL_law 538 = .ok (.invokevirtual 51, 3) := by decide +kernel
theorem dL_law_541 : decode cL_law 541 = .ok (.sipush (-1003), 3) := by decide +kernel
theorem dL_law_544 : decode cL_law 544 = .ok (.if_icmp .ne 28, 3) := by decide +kernel
theorem dL_law_547 : decode cL_law 547 = .ok (.aload_n 1, 1) := by decide +kernel
theorem dL_law_548 : decode cL_law 548 = .ok (.iload 9, 2) := by decide +kernel
theorem dL_law_550 : decode cL_law 550 = .ok (.iconst 0, 1) := by decide +kernel
theorem dL_law_551 : decode cL_law 551 = .ok (.invokevirtual 55, 3) := by decide +kernel
theorem dL_law_554 : decode cL_law 554 = .ok (.sipush (-1003), 3) := by decide +kernel
theorem dL_law_557 : decode cL_law 557 = .ok (.if_icmp .ne 15, 3) := by decide +kernel
theorem dL_law_560 : decode cL_law 560 = .ok (.aload_n 1, 1) := by decide +kernel
theorem dL_law_561 : decode cL_law 561 = .ok (.iload 9, 2) := by decide +kernel
theorem dL_law_563 : decode cL_law 563 = .ok (.invokevirtual 87, 3) := by decide +kernel
theorem dL_law_566 : decode cL_law 566 = .ok (.sipush (-1003), 3) := by decide +kernel
theorem dL_law_569 : decode cL_law 569 = .ok (.if_icmp .eq 581, 3) := by decide +kernel
theorem dL_law_572 : decode cL_law 572 = .ok (.iconst 0, 1) := by decide +kernel
theorem dL_law_573 : decode cL_law 573 = .ok (.ireturn, 1) := by decide +kernel
theorem dL_law_574 : decode cL_law 574 = .ok (.iload 8, 2) := by decide +kernel
theorem dL_law_576 : decode cL_law 576 = .ok (.bipush 6, 2) := by decide +kernel
theorem dL_law_578 : decode cL_law 578 = .ok (.if_icmp .ne 92, 3) := by decide +kernel
theorem dL_law_581 : decode cL_law 581 = .ok (.aload_n 1, 1) := by decide +kernel
theorem dL_law_582 : decode cL_law 582 = .ok (.iload 9, 2) := by decide +kernel
theorem dL_law_584 : decode cL_law 584 = .ok (.iconst 0, 1) := by decide +kernel
theorem dL_law_585 : decode cL_law 585 = .ok (.invokevirtual 36, 3) := by decide +kernel
theorem dL_law_588 : decode cL_law 588 = .ok (.istore 14, 2) := by decide +kernel
theorem dL_law_590 : decode cL_law 590 = .ok (.iload 10, 2) := by decide +kernel
theorem dL_law_592 : decode cL_law 592 = .ok (.ifCond .eq 7, 3) := by decide +kernel
theorem dL_law_595 : decode cL_law 595 = .ok (.iconst 0, 1) := by decide +kernel
theorem dL_law_596 : decode cL_law 596 = .ok (.goto 10, 3) := by decide +kernel
theorem dL_law_599 : decode cL_law 599 = .ok (.aload_n 1, 1) := by decide +kernel
theorem dL_law_600 : decode cL_law 600 = .ok (.iload 14, 2) := by decide +kernel
theorem dL_law_602 : decode cL_law 602 = .ok (.iconst 4, 1) := by decide +kernel
theorem dL_law_603 : decode cL_law 603 = .ok (.invokevirtual 21, 3) := by decide +kernel
theorem dL_law_606 : decode cL_law 606 = .ok (.istore 15, 2) := by decide +kernel
theorem dL_law_608 : decode cL_law 608 = .ok (.aload_n 1, 1) := by decide +kernel
theorem dL_law_609 : decode cL_law 609 = .ok (.iload 9, 2) := by decide +kernel
theorem dL_law_611 : decode cL_law 611 = .ok (.invokevirtual 111, 3) := by decide +kernel
theorem dL_law_614 : decode cL_law 614 = .ok (.istore 16, 2) := by decide +kernel
theorem dL_law_616 : decode cL_law 616 = .ok (.iload 10, 2) := by decide +kernel
theorem dL_law_618 : decode cL_law 618 = .ok (.ifCond .eq 14, 3) := by decide +kernel
theorem dL_law_621 : decode cL_law 621 = .ok (.iload 16, 2) := by decide +kernel
theorem dL_law_623 : decode cL_law 623 = .ok (.sipush (-1004), 3) := by decide +kernel
theorem dL_law_626 : decode cL_law 626 = .ok (.if_icmp .eq 41, 3) := by decide +kernel
theorem dL_law_629 : decode cL_law 629 = .ok (.goto 36, 3) := by decide +kernel
theorem dL_law_632 : decode cL_law 632 = .ok (.iload 16, 2) := by decide +kernel
theorem dL_law_634 : decode cL_law 634 = .ok (.iload 15, 2) := by decide +kernel
theorem dL_law_636 : decode cL_law 636 = .ok (.aload_n 1, 1) := by decide +kernel
theorem dL_law_637 : decode cL_law 637 = .ok (.iload 14, 2) := by decide +kernel
theorem dL_law_639 : decode cL_law 639 = .ok (.iconst 4, 1) := by decide +kernel
theorem dL_law_640 : decode cL_law 640 = .ok (.invokevirtual 21, 3) := by decide +kernel
theorem dL_law_643 : decode cL_law 643 = .ok (.isub, 1) := by decide +kernel
theorem dL_law_644 : decode cL_law 644 = .ok (.if_icmp .ne 21, 3) := by decide +kernel
theorem dL_law_647 : decode cL_law 647 = .ok (.iload 16, 2) := by decide +kernel
theorem dL_law_649 : decode cL_law 649 = .ok (.ifCond .lt 16, 3) := by decide +kernel
theorem dL_law_652 : decode cL_law 652 = .ok (.aload_n 1, 1) := by decide +kernel
theorem dL_law_653 : decode cL_law 653 = .ok (.iload 9, 2) := by decide +kernel
theorem dL_law_655 : decode cL_law 655 = .ok (.iconst 0, 1) := by decide +kernel
theorem dL_law_656 : decode cL_law 656 = .ok (.invokevirtual 36, 3) := by decide +kernel
theorem dL_law_659 : decode cL_law 659 = .ok (.sipush (-1007), 3) := by decide +kernel
theorem dL_law_662 : decode cL_law 662 = .ok (.if_icmp .eq 5, 3) := by decide +kernel
theorem dL_law_665 : decode cL_law 665 = .ok (.iconst 0, 1) := by decide +kernel
theorem dL_law_666 : decode cL_law 666 = .ok (.ireturn, 1) := by decide +kernel
theorem dL_law_667 : decode cL_law 667 = .ok (.goto 483, 3) := by decide +kernel
theorem dL_law_670 : decode cL_law 670 = .ok (.iload 8, 2) := by decide +kernel
theorem dL_law_672 : decode cL_law 672 = .ok (.bipush 9, 2) := by decide +kernel
theorem dL_law_674 : decode cL_law 674 = .ok (.if_icmp .ge 19, 3) := by decide +kernel
theorem dL_law_677 : decode cL_law 677 = .ok (.iload 10, 2) := by decide +kernel
theorem dL_law_679 : decode cL_law 679 = .ok (.ifCond .eq 471, 3) := by decide +kernel
theorem dL_law_682 : decode cL_law 682 = .ok (.aload_n 1, 1) := by decide +kernel
theorem dL_law_683 : decode cL_law 683 = .ok (.iload 9, 2) := by decide +kernel
theorem dL_law_685 : decode cL_law 685 = .ok (.invokestatic 130, 3) := by decide +kernel
theorem dL_law_688 : decode cL_law 688 = .ok (.ifCond .ne 462, 3) := by decide +kernel
theorem dL_law_691 : decode cL_law 691 = .ok (.iconst 0, 1) := by decide +kernel
theorem dL_law_692 : decode cL_law 692 = .ok (.ireturn, 1) := by decide +kernel
theorem dL_law_693 : decode cL_law 693 = .ok (.iload 8, 2) := by decide +kernel
theorem dL_law_695 : decode cL_law 695 = .ok (.bipush 9, 2) := by decide +kernel
theorem dL_law_697 : decode cL_law 697 = .ok (.if_icmp .ne 57, 3) := by decide +kernel
theorem dL_law_700 : decode cL_law 700 = .ok (.aload_n 1, 1) := by decide +kernel
theorem dL_law_701 : decode cL_law 701 = .ok (.iconst 3, 1) := by decide +kernel
theorem dL_law_702 : decode cL_law 702 = .ok (.invokevirtual 25, 3) := by decide +kernel
theorem dL_law_705 : decode cL_law 705 = .ok (.istore 14, 2) := by decide +kernel
theorem dL_law_707 : decode cL_law 707 = .ok (.aload_n 1, 1) := by decide +kernel
theorem dL_law_708 : decode cL_law 708 = .ok (.invokevirtual 119, 3) := by decide +kernel
theorem dL_law_711 : decode cL_law 711 = .ok (.istore 15, 2) := by decide +kernel
theorem dL_law_713 : decode cL_law 713 = .ok (.iload 15, 2) := by decide +kernel
theorem dL_law_715 : decode cL_law 715 = .ok (.ifCond .eq 34, 3) := by decide +kernel
theorem dL_law_718 : decode cL_law 718 = .ok (.iload 15, 2) := by decide +kernel
theorem dL_law_720 : decode cL_law 720 = .ok (.ifCond .ge 11, 3) := by decide +kernel
theorem dL_law_723 : decode cL_law 723 = .ok (.iload 15, 2) := by decide +kernel
theorem dL_law_725 : decode cL_law 725 = .ok (.sipush (-1007), 3) := by decide +kernel
theorem dL_law_728 : decode cL_law 728 = .ok (.if_icmp .ne 21, 3) := by decide +kernel
theorem dL_law_731 : decode cL_law 731 = .ok (.iload 15, 2) := by decide +kernel
theorem dL_law_733 : decode cL_law 733 = .ok (.ifCond .le 18, 3) := by decide +kernel
theorem dL_law_736 : decode cL_law 736 = .ok (.aload_n 1, 1) := by decide +kernel
theorem dL_law_737 : decode cL_law 737 = .ok (.iconst 3, 1) := by decide +kernel
theorem dL_law_738 : decode cL_law 738 = .ok (.invokevirtual 25, 3) := by decide +kernel
theorem dL_law_741 : decode cL_law 741 = .ok (.iload 14, 2) := by decide +kernel
theorem dL_law_743 : decode cL_law 743 = .ok (.iload 15, 2) := by decide +kernel
theorem dL_law_745 : decode cL_law 745 = .ok (.isub, 1) := by decide +kernel
theorem dL_law_746 : decode cL_law 746 = .ok (.if_icmp .eq 5, 3) := by decide +kernel
theorem dL_law_749 : decode cL_law 749 = .ok (.iconst 0, 1) := by decide +kernel
theorem dL_law_750 : decode cL_law 750 = .ok (.ireturn, 1) := by decide +kernel
theorem dL_law_751 : decode cL_law 751 = .ok (.goto 399, 3) := by decide +kernel
theorem dL_law_754 : decode cL_law 754 = .ok (.iload 8, 2) := by decide +kernel
theorem dL_law_756 : decode cL_law 756 = .ok (.bipush 10, 2) := by decide +kernel
theorem dL_law_758 : decode cL_law 758 = .ok (.if_icmp .ne 59, 3) := by decide +kernel
theorem dL_law_761 : decode cL_law 761 = .ok (.aload_n 1, 1) := by decide +kernel
theorem dL_law_762 : decode cL_law 762 = .ok (.invokevirtual 115, 3) := by decide +kernel
theorem dL_law_765 : decode cL_law 765 = .ok (.istore 14, 2) := by decide +kernel
theorem dL_law_767 : decode cL_law 767 = .ok (.iload 14, 2) := by decide +kernel
theorem dL_law_769 : decode cL_law 769 = .ok (.iload 5, 2) := by decide +kernel
theorem dL_law_771 : decode cL_law 771 = .ok (.ifCond .ne 9, 3) := by decide +kernel
theorem dL_law_774 : decode cL_law 774 = .ok (.sipush (-1007), 3) := by decide +kernel
theorem dL_law_777 : decode cL_law 777 = .ok (.goto 7, 3) := by decide +kernel
theorem dL_law_780 : decode cL_law 780 = .ok (.iload 5, 2) := by decide +kernel
theorem dL_law_782 : decode cL_law 782 = .ok (.iconst 1, 1) := by decide +kernel
theorem dL_law_783 : decode cL_law 783 = .ok (.isub, 1) := by decide +kernel
theorem dL_law_784 : decode cL_law 784 = .ok (.if_icmp .eq 5, 3) := by decide +kernel
theorem dL_law_787 : decode cL_law 787 = .ok (.iconst 0, 1) := by decide +kernel
theorem dL_law_788 : decode cL_law 788 = .ok (.ireturn, 1) := by decide +kernel
theorem dL_law_789 : decode cL_law 789 = .ok (.iload 5, 2) := by decide +kernel
theorem dL_law_791 : decode cL_law 791 = .ok (.ifCond .ne 7, 3) := by decide +kernel
theorem dL_law_794 : decode cL_law 794 = .ok (.iconst 0, 1) := by decide +kernel
theorem dL_law_795 : decode cL_law 795 = .ok (.goto 7, 3) := by decide +kernel
theorem dL_law_798 : decode cL_law 798 = .ok (.iload 5, 2) := by decide +kernel
theorem dL_law_800 : decode cL_law 800 = .ok (.iconst 1, 1) := by decide +kernel
theorem dL_law_801 : decode cL_law 801 = .ok (.isub, 1) := by decide +kernel
theorem dL_law_802 : decode cL_law 802 = .ok (.istore 5, 2) := by decide +kernel
theorem dL_law_804 : decode cL_law 804 = .ok (.aload_n 1, 1) := by decide +kernel
theorem dL_law_805 : decode cL_law 805 = .ok (.invokestatic 83, 3) := by decide +kernel
theorem dL_law_808 : decode cL_law 808 = .ok (.lstore 11, 2) := by decide +kernel
theorem dL_law_810 : decode cL_law 810 = .ok (.iload 5, 2) := by decide +kernel
theorem dL_law_812 : decode cL_law 812 = .ok (.istore 13, 2) := by decide +kernel
theorem dL_law_814 : decode cL_law 814 = .ok (.goto 336, 3) := by decide +kernel
theorem dL_law_817 : decode cL_law 817 = .ok (.iload 8, 2) := by decide +kernel
theorem dL_law_819 : decode cL_law 819 = .ok (.bipush 11, 2) := by decide +kernel
theorem dL_law_821 : decode cL_law 821 = .ok (.if_icmp .ne 149, 3) := by decide +kernel
theorem dL_law_824 : decode cL_law 824 = .ok (.aload_n 1, 1) := by decide +kernel
theorem dL_law_825 : decode cL_law 825 = .ok (.iload 9, 2) := by decide +kernel
theorem dL_law_827 : decode cL_law 827 = .ok (.iconst 2, 1) := by decide +kernel
theorem dL_law_828 : decode cL_law 828 = .ok (.invokevirtual 36, 3) := by decide +kernel
theorem dL_law_831 : decode cL_law 831 = .ok (.istore 14, 2) := by decide +kernel
theorem dL_law_833 : decode cL_law 833 = .ok (.iload 14, 2) := by decide +kernel
theorem dL_law_835 : decode cL_law 835 = .ok (.iconst 1, 1) := by decide +kernel
theorem dL_law_836 : decode cL_law 836 = .ok (.iadd, 1) := by decide +kernel
theorem dL_law_837 : decode cL_law 837 = .ok (.iload 7, 2) := by decide +kernel
theorem dL_law_839 : decode cL_law 839 = .ok (.bipush 8, 2) := by decide +kernel
theorem dL_law_841 : decode cL_law 841 = .ok (.ishr, 1) := by decide +kernel
theorem dL_law_842 : decode cL_law 842 = .ok (.bipush 30, 2) := by decide +kernel
theorem dL_law_844 : decode cL_law 844 = .ok (.invokestatic 66, 3) := by decide +kernel
theorem dL_law_847 : decode cL_law 847 = .ok (.isub, 1) := by decide +kernel
theorem dL_law_848 : decode cL_law 848 = .ok (.ifCond .ge 7, 3) := by decide +kernel
theorem dL_law_851 : decode cL_law 851 = .ok (.iconst 5, 1) := by decide +kernel
theorem dL_law_852 : decode cL_law 852 = .ok (.goto 18, 3) := by decide +kernel
theorem dL_law_855 : decode cL_law 855 = .ok (.iload 14, 2) := by decide +kernel
theorem dL_law_857 : decode cL_law 857 = .ok (.iconst 1, 1) := by decide +kernel
theorem dL_law_858 : decode cL_law 858 = .ok (.iadd, 1) := by decide +kernel
theorem dL_law_859 : decode cL_law 859 = .ok (.iload 7, 2) := by decide +kernel
theorem dL_law_861 : decode cL_law 861 = .ok (.bipush 8, 2) := by decide +kernel
theorem dL_law_863 : decode cL_law 863 = .ok (.ishr, 1) := by decide +kernel
theorem dL_law_864 : decode cL_law 864 = .ok (.bipush 30, 2) := by decide +kernel
theorem dL_law_866 : decode cL_law 866 = .ok (.invokestatic 66, 3) := by decide +kernel
theorem dL_law_869 : decode cL_law 869 = .ok (.isub, 1) := by decide +kernel
theorem dL_law_870 : decode cL_law 870 = .ok (.istore 15, 2) := by decide +kernel
theorem dL_law_872 : decode cL_law 872 = .ok (.aload_n 1, 1) := by decide +kernel
theorem dL_law_873 : decode cL_law 873 = .ok (.iload 9, 2) := by decide +kernel
theorem dL_law_875 : decode cL_law 875 = .ok (.iload 15, 2) := by decide +kernel
theorem dL_law_877 : decode cL_law 877 = .ok (.invokevirtual 102, 3) := by decide +kernel
theorem dL_law_880 : decode cL_law 880 = .ok (.istore 16, 2) := by decide +kernel
theorem dL_law_882 : decode cL_law 882 = .ok (.iload 16, 2) := by decide +kernel
theorem dL_law_884 : decode cL_law 884 = .ok (.ifCond .lt 14, 3) := by decide +kernel
theorem dL_law_887 : decode cL_law 887 = .ok (.iload 15, 2) := by decide +kernel
theorem dL_law_889 : decode cL_law 889 = .ok (.iload 14, 2) := by decide +kernel
theorem dL_law_891 : decode cL_law 891 = .ok (.if_icmp .eq 7, 3) := by decide +kernel
theorem dL_law_894 : decode cL_law 894 = .ok (.iconst 1, 1) := by decide +kernel
theorem dL_law_895 : decode cL_law 895 = .ok (.goto 4, 3) := by decide +kernel
theorem dL_law_898 : decode cL_law 898 = .ok (.iconst 0, 1) := by decide +kernel
theorem dL_law_899 : decode cL_law 899 = .ok (.istore 17, 2) := by decide +kernel
theorem dL_law_901 : decode cL_law 901 = .ok (.iload 16, 2) := by decide +kernel
theorem dL_law_903 : decode cL_law 903 = .ok (.iload 14, 2) := by decide +kernel
theorem dL_law_905 : decode cL_law 905 = .ok (.if_icmp .eq 11, 3) := by decide +kernel
theorem dL_law_908 : decode cL_law 908 = .ok (.iload 16, 2) := by decide +kernel
theorem dL_law_910 : decode cL_law 910 = .ok (.sipush (-1005), 3) := by decide +kernel
theorem dL_law_913 : decode cL_law 913 = .ok (.if_icmp .ne 35, 3) := by decide +kernel
theorem dL_law_916 : decode cL_law 916 = .ok (.iload 10, 2) := by decide +kernel
theorem dL_law_918 : decode cL_law 918 = .ok (.ifCond .eq 8, 3) := by decide +kernel
theorem dL_law_921 : decode cL_law 921 = .ok (.iload 16, 2) := by decide +kernel
theorem dL_law_923 : decode cL_law 923 = .ok (.ifCond .lt 25, 3) := by decide +kernel
theorem dL_law_926 : decode cL_law 926 = .ok (.aload_n 1, 1) := by decide +kernel
theorem dL_law_927 : decode cL_law 927 = .ok (.iload 9, 2) := by decide +kernel
theorem dL_law_929 : decode cL_law 929 = .ok (.iconst 2, 1) := by decide +kernel
theorem dL_law_930 : decode cL_law 930 = .ok (.invokevirtual 36, 3) := by decide +kernel
theorem dL_law_933 : decode cL_law 933 = .ok (.iload 16, 2) := by decide +kernel
theorem dL_law_935 : decode cL_law 935 = .ok (.ifCond .ge 8, 3) := by decide +kernel
theorem dL_law_938 : decode cL_law 938 = .ok (.iload 14, 2) := by decide +kernel
theorem dL_law_940 : decode cL_law 940 = .ok (.goto 5, 3) := by decide +kernel
theorem dL_law_943 : decode cL_law 943 = .ok (.iload 15, 2) := by decide +kernel
theorem dL_law_945 : decode cL_law 945 = .ok (.if_icmp .eq 5, 3) := by decide +kernel
theorem dL_law_948 : decode cL_law 948 = .ok (.iconst 0, 1) := by decide +kernel
theorem dL_law_949 : decode cL_law 949 = .ok (.ireturn, 1) := by decide +kernel
theorem dL_law_950 : decode cL_law 950 = .ok (.iload 17, 2) := by decide +kernel
theorem dL_law_952 : decode cL_law 952 = .ok (.ifCond .eq 7, 3) := by decide +kernel
theorem dL_law_955 : decode cL_law 955 = .ok (.iconst 0, 1) := by decide +kernel
theorem dL_law_956 : decode cL_law 956 = .ok (.goto 5, 3) := by decide +kernel
theorem dL_law_959 : decode cL_law 959 = .ok (.iload 5, 2) := by decide +kernel
theorem dL_law_961 : decode cL_law 961 = .ok (.istore 5, 2) := by decide +kernel
theorem dL_law_963 : decode cL_law 963 = .ok (.iload 5, 2) := by decide +kernel
theorem dL_law_965 : decode cL_law 965 = .ok (.istore 13, 2) := by decide +kernel
theorem dL_law_967 : decode cL_law 967 = .ok (.goto 183, 3) := by decide +kernel
theorem dL_law_970 : decode cL_law 970 = .ok (.iload 8, 2) := by decide +kernel
theorem dL_law_972 : decode cL_law 972 = .ok (.bipush 12, 2) := by decide +kernel
theorem dL_law_974 : decode cL_law 974 = .ok (.if_icmp .ne 93, 3) := by decide +kernel
theorem dL_law_977 : decode cL_law 977 = .ok (.aload_n 1, 1) := by decide +kernel
theorem dL_law_978 : decode cL_law 978 = .ok (.iconst 4, 1) := by decide +kernel
theorem dL_law_979 : decode cL_law 979 = .ok (.invokevirtual 25, 3) := by decide +kernel
theorem dL_law_982 : decode cL_law 982 = .ok (.istore 14, 2) := by decide +kernel
theorem dL_law_984 : decode cL_law 984 = .ok (.iload 7, 2) := by decide +kernel
theorem dL_law_986 : decode cL_law 986 = .ok (.bipush 8, 2) := by decide +kernel
theorem dL_law_988 : decode cL_law 988 = .ok (.ishr, 1) := by decide +kernel
theorem dL_law_989 : decode cL_law 989 = .ok (.iconst 4, 1) := by decide +kernel
theorem dL_law_990 : decode cL_law 990 = .ok (.invokestatic 66, 3) := by decide +kernel
theorem dL_law_993 : decode cL_law 993 = .ok (.istore 15, 2) := by decide +kernel
theorem dL_law_995 : decode cL_law 995 = .ok (.aload_n 1, 1) := by decide +kernel
theorem dL_law_996 : decode cL_law 996 = .ok (.iload 15, 2) := by decide +kernel
theorem dL_law_998 : decode cL_law 998 = .ok (.invokevirtual 108, 3) := by decide +kernel
theorem dL_law_1001 : decode cL_law 1001 = .ok (.istore 16, 2) := by decide +kernel
theorem dL_law_1003 : decode cL_law 1003 = .ok (.iload 16, 2) := by decide +kernel
theorem dL_law_1005 : decode cL_law 1005 = .ok (.iload 14, 2) := by decide +kernel
theorem dL_law_1007 : decode cL_law 1007 = .ok (.if_icmp .eq 11, 3) := by decide +kernel
theorem dL_law_1010 : decode cL_law 1010 = .ok (.iload 16, 2) := by decide +kernel
theorem dL_law_1012 : decode cL_law 1012 = .ok (.sipush (-1005), 3) := by decide +kernel
theorem dL_law_1015 : decode cL_law 1015 = .ok (.if_icmp .ne 23, 3) := by decide +kernel
theorem dL_law_1018 : decode cL_law 1018 = .ok (.aload_n 1, 1) := by decide +kernel
theorem dL_law_1019 : decode cL_law 1019 = .ok (.iconst 4, 1) := by decide +kernel
theorem dL_law_1020 : decode cL_law 1020 = .ok (.invokevirtual 25, 3) := by decide +kernel
theorem dL_law_1023 : decode cL_law 1023 = .ok (.iload 16, 2) := by decide +kernel
theorem dL_law_1025 : decode cL_law 1025 = .ok (.ifCond .ge 8, 3) := by decide +kernel
theorem dL_law_1028 : decode cL_law 1028 = .ok (.iload 14, 2) := by decide +kernel
theorem dL_law_1030 : decode cL_law 1030 = .ok (.goto 5, 3) := by decide +kernel
theorem dL_law_1033 : decode cL_law 1033 = .ok (.iload 15, 2) := by decide +kernel
theorem dL_law_1035 : decode cL_law 1035 = .ok (.if_icmp .eq 5, 3) := by decide +kernel
theorem dL_law_1038 : decode cL_law 1038 = .ok (.iconst 0, 1) := by decide +kernel
theorem dL_law_1039 : decode cL_law 1039 = .ok (.ireturn, 1) := by decide +kernel
theorem dL_law_1040 : decode cL_law 1040 = .ok (.iload 16, 2) := by decide +kernel
theorem dL_law_1042 : decode cL_law 1042 = .ok (.ifCond .lt 14, 3) := by decide +kernel
theorem dL_law_1045 : decode cL_law 1045 = .ok (.iload 15, 2) := by decide +kernel
theorem dL_law_1047 : decode cL_law 1047 = .ok (.iload 14, 2) := by decide +kernel
theorem dL_law_1049 : decode cL_law 1049 = .ok (.if_icmp .eq 7, 3) := by decide +kernel
theorem dL_law_1052 : decode cL_law 1052 = .ok (.iconst 0, 1) := by decide +kernel
theorem dL_law_1053 : decode cL_law 1053 = .ok (.goto 5, 3) := by decide +kernel
theorem dL_law_1056 : decode cL_law 1056 = .ok (.iload 5, 2) := by decide +kernel
theorem dL_law_1058 : decode cL_law 1058 = .ok (.istore 5, 2) := by decide +kernel
theorem dL_law_1060 : decode cL_law 1060 = .ok (.iload 5, 2) := by decide +kernel
theorem dL_law_1062 : decode cL_law 1062 = .ok (.istore 13, 2) := by decide +kernel
theorem dL_law_1064 : decode cL_law 1064 = .ok (.goto 86, 3) := by decide +kernel
theorem dL_law_1067 : decode cL_law 1067 = .ok (.aload_n 1, 1) := by decide +kernel
theorem dL_law_1068 : decode cL_law 1068 = .ok (.iload 9, 2) := by decide +kernel
theorem dL_law_1070 : decode cL_law 1070 = .ok (.iconst 1, 1) := by decide +kernel
theorem dL_law_1071 : decode cL_law 1071 = .ok (.invokevirtual 36, 3) := by decide +kernel
theorem dL_law_1074 : decode cL_law 1074 = .ok (.istore 14, 2) := by decide +kernel
theorem dL_law_1076 : decode cL_law 1076 = .ok (.iconst 1, 1) := by decide +kernel
theorem dL_law_1077 : decode cL_law 1077 = .ok (.iload 7, 2) := by decide +kernel
theorem dL_law_1079 : decode cL_law 1079 = .ok (.bipush 8, 2) := by decide +kernel
theorem dL_law_1081 : decode cL_law 1081 = .ok (.ishr, 1) := by decide +kernel
theorem dL_law_1082 : decode cL_law 1082 = .ok (.iconst 4, 1) := by decide +kernel
theorem dL_law_1083 : decode cL_law 1083 = .ok (.invokestatic 66, 3) := by decide +kernel
theorem dL_law_1086 : decode cL_law 1086 = .ok (.iadd, 1) := by decide +kernel
theorem dL_law_1087 : decode cL_law 1087 = .ok (.istore 15, 2) := by decide +kernel
theorem dL_law_1089 : decode cL_law 1089 = .ok (.aload_n 1, 1) := by decide +kernel
theorem dL_law_1090 : decode cL_law 1090 = .ok (.iload 9, 2) := by decide +kernel
theorem dL_law_1092 : decode cL_law 1092 = .ok (.iload 15, 2) := by decide +kernel
theorem dL_law_1094 : decode cL_law 1094 = .ok (.invokevirtual 105, 3) := by decide +kernel
theorem dL_law_1097 : decode cL_law 1097 = .ok (.istore 16, 2) := by decide +kernel
theorem dL_law_1099 : decode cL_law 1099 = .ok (.iload 16, 2) := by decide +kernel
theorem dL_law_1101 : decode cL_law 1101 = .ok (.iload 14, 2) := by decide +kernel
theorem dL_law_1103 : decode cL_law 1103 = .ok (.if_icmp .eq 11, 3) := by decide +kernel
theorem dL_law_1106 : decode cL_law 1106 = .ok (.iload 16, 2) := by decide +kernel
theorem dL_law_1108 : decode cL_law 1108 = .ok (.sipush (-1005), 3) := by decide +kernel
theorem dL_law_1111 : decode cL_law 1111 = .ok (.if_icmp .ne 13, 3) := by decide +kernel
theorem dL_law_1114 : decode cL_law 1114 = .ok (.iload 10, 2) := by decide +kernel
theorem dL_law_1116 : decode cL_law 1116 = .ok (.ifCond .eq 10, 3) := by decide +kernel
theorem dL_law_1119 : decode cL_law 1119 = .ok (.iload 16, 2) := by decide +kernel
theorem dL_law_1121 : decode cL_law 1121 = .ok (.ifCond .ge 5, 3) := by decide +kernel
theorem dL_law_1124 : decode cL_law 1124 = .ok (.iconst 0, 1) := by decide +kernel
theorem dL_law_1125 : decode cL_law 1125 = .ok (.ireturn, 1) := by decide +kernel
theorem dL_law_1126 : decode cL_law 1126 = .ok (.iload 16, 2) := by decide +kernel
theorem dL_law_1128 : decode cL_law 1128 = .ok (.ifCond .lt 14, 3) := by decide +kernel
theorem dL_law_1131 : decode cL_law 1131 = .ok (.iload 15, 2) := by decide +kernel
theorem dL_law_1133 : decode cL_law 1133 = .ok (.iload 14, 2) := by decide +kernel
theorem dL_law_1135 : decode cL_law 1135 = .ok (.if_icmp .eq 7, 3) := by decide +kernel
theorem dL_law_1138 : decode cL_law 1138 = .ok (.iconst 0, 1) := by decide +kernel
theorem dL_law_1139 : decode cL_law 1139 = .ok (.goto 5, 3) := by decide +kernel
theorem dL_law_1142 : decode cL_law 1142 = .ok (.iload 5, 2) := by decide +kernel
theorem dL_law_1144 : decode cL_law 1144 = .ok (.istore 5, 2) := by decide +kernel
theorem dL_law_1146 : decode cL_law 1146 = .ok (.iload 5, 2) := by decide +kernel
theorem dL_law_1148 : decode cL_law 1148 = .ok (.istore 13, 2) := by decide +kernel
theorem dL_law_1150 : decode cL_law 1150 = .ok (.aload_n 1, 1) := by decide +kernel
theorem dL_law_1151 : decode cL_law 1151 = .ok (.invokestatic 83, 3) := by decide +kernel
theorem dL_law_1154 : decode cL_law 1154 = .ok (.lstore 14, 2) := by decide +kernel
theorem dL_law_1156 : decode cL_law 1156 = .ok (.lload 14, 2) := by decide +kernel
theorem dL_law_1158 : decode cL_law 1158 = .ok (.lload 11, 2) := by decide +kernel
theorem dL_law_1160 : decode cL_law 1160 = .ok (.lcmp, 1) := by decide +kernel
theorem dL_law_1161 : decode cL_law 1161 = .ok (.ifCond .eq 55, 3) := by decide +kernel
theorem dL_law_1164 : decode cL_law 1164 = .ok (.iload 13, 2) := by decide +kernel
theorem dL_law_1166 : decode cL_law 1166 = .ok (.bipush 10, 2) := by decide +kernel
theorem dL_law_1168 : decode cL_law 1168 = .ok (.if_icmp .ge 10, 3) := by decide +kernel
theorem dL_law_1171 : decode cL_law 1171 = .ok (.iload 13, 2) := by decide +kernel
theorem dL_law_1173 : decode cL_law 1173 = .ok (.iconst 1, 1) := by decide +kernel
theorem dL_law_1174 : decode cL_law 1174 = .ok (.iadd, 1) := by decide +kernel
theorem dL_law_1175 : decode cL_law 1175 = .ok (.goto 5, 3) := by decide +kernel
theorem dL_law_1178 : decode cL_law 1178 = .ok (.bipush 10, 2) := by decide +kernel
theorem dL_law_1180 : decode cL_law 1180 = .ok (.istore 5, 2) := by decide +kernel
theorem dL_law_1182 : decode cL_law 1182 = .ok (.iload 7, 2) := by decide +kernel
theorem dL_law_1184 : decode cL_law 1184 = .ok (.bipush 20, 2) := by decide +kernel
theorem dL_law_1186 : decode cL_law 1186 = .ok (.ishr, 1) := by decide +kernel
theorem dL_law_1187 : decode cL_law 1187 = .ok (.iconst 3, 1) := by decide +kernel
theorem dL_law_1188 : decode cL_law 1188 = .ok (.iand, 1) := by decide +kernel
theorem dL_law_1189 : decode cL_law 1189 = .ok (.ifCond .ne 67, 3) := by decide +kernel
theorem dL_law_1192 : decode cL_law 1192 = .ok (.iinc 5 (-1), 3) := by decide +kernel
theorem dL_law_1195 : decode cL_law 1195 = .ok (.aload_n 1, 1) := by decide +kernel
theorem dL_law_1196 : decode cL_law 1196 = .ok (.invokevirtual 115, 3) := by decide +kernel
theorem dL_law_1199 : decode cL_law 1199 = .ok (.iload 5, 2) := by decide +kernel
theorem dL_law_1201 : decode cL_law 1201 = .ok (.if_icmp .ne 13, 3) := by decide +kernel
theorem dL_law_1204 : decode cL_law 1204 = .ok (.aload_n 1, 1) := by decide +kernel
theorem dL_law_1205 : decode cL_law 1205 = .ok (.invokestatic 83, 3) := by decide +kernel
theorem dL_law_1208 : decode cL_law 1208 = .ok (.lload 11, 2) := by decide +kernel
theorem dL_law_1210 : decode cL_law 1210 = .ok (.lcmp, 1) := by decide +kernel
theorem dL_law_1211 : decode cL_law 1211 = .ok (.ifCond .eq 45, 3) := by decide +kernel
theorem dL_law_1214 : decode cL_law 1214 = .ok (.iconst 0, 1) := by decide +kernel
theorem dL_law_1215 : decode cL_law 1215 = .ok (.ireturn, 1) := by decide +kernel
theorem dL_law_1216 : decode cL_law 1216 = .ok (.aload_n 1, 1) := by decide +kernel
theorem dL_law_1217 : decode cL_law 1217 = .ok (.iconst 5, 1) := by decide +kernel
theorem dL_law_1218 : decode cL_law 1218 = .ok (.invokevirtual 25, 3) := by decide +kernel
theorem dL_law_1221 : decode cL_law 1221 = .ok (.iload 13, 2) := by decide +kernel
theorem dL_law_1223 : decode cL_law 1223 = .ok (.if_icmp .eq 33, 3) := by decide +kernel
theorem dL_law_1226 : decode cL_law 1226 = .ok (.aload_n 1, 1) := by decide +kernel
theorem dL_law_1227 : decode cL_law 1227 = .ok (.iconst 5, 1) := by decide +kernel
theorem dL_law_1228 : decode cL_law 1228 = .ok (.invokevirtual 25, 3) := by decide +kernel
theorem dL_law_1231 : decode cL_law 1231 = .ok (.istore 5, 2) := by decide +kernel
theorem dL_law_1233 : decode cL_law 1233 = .ok (.iload 5, 2) := by decide +kernel
theorem dL_law_1235 : decode cL_law 1235 = .ok (.iload 13, 2) := by decide +kernel
theorem dL_law_1237 : decode cL_law 1237 = .ok (.bipush 10, 2) := by decide +kernel
theorem dL_law_1239 : decode cL_law 1239 = .ok (.if_icmp .ge 10, 3) := by decide +kernel
theorem dL_law_1242 : decode cL_law 1242 = .ok (.iload 13, 2) := by decide +kernel
theorem dL_law_1244 : decode cL_law 1244 = .ok (.iconst 1, 1) := by decide +kernel
theorem dL_law_1245 : decode cL_law 1245 = .ok (.iadd, 1) := by decide +kernel
theorem dL_law_1246 : decode cL_law 1246 = .ok (.goto 5, 3) := by decide +kernel
theorem dL_law_1249 : decode cL_law 1249 = .ok (.bipush 10, 2) := by decide +kernel
theorem dL_law_1251 : decode cL_law 1251 = .ok (.if_icmp .eq 5, 3) := by decide +kernel
theorem dL_law_1254 : decode cL_law 1254 = .ok (.iconst 0, 1) := by decide +kernel
theorem dL_law_1255 : decode cL_law 1255 = .ok (.ireturn, 1) := by decide +kernel
theorem dL_law_1256 : decode cL_law 1256 = .ok (.aload_n 1, 1) := by decide +kernel
theorem dL_law_1257 : decode cL_law 1257 = .ok (.aload_n 2, 1) := by decide +kernel
theorem dL_law_1258 : decode cL_law 1258 = .ok (.invokestatic 134, 3) := by decide +kernel
theorem dL_law_1261 : decode cL_law 1261 = .ok (.ifCond .ne 5, 3) := by decide +kernel
theorem dL_law_1264 : decode cL_law 1264 = .ok (.iconst 0, 1) := by decide +kernel
theorem dL_law_1265 : decode cL_law 1265 = .ok (.ireturn, 1) := by decide +kernel
theorem dL_law_1266 : decode cL_law 1266 = .ok (.iinc 6 1, 3) := by decide +kernel
theorem dL_law_1269 : decode cL_law 1269 = .ok (.goto (-858), 3) := by decide +kernel
theorem dL_law_1272 : decode cL_law 1272 = .ok (.aload_n 1, 1) := by decide +kernel
theorem dL_law_1273 : decode cL_law 1273 = .ok (.invokestatic 138, 3) := by decide +kernel
theorem dL_law_1276 : decode cL_law 1276 = .ok (.ireturn, 1) := by decide +kernel
