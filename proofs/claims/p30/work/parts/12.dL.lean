/-! ===== decode rows (printed) ===== -/
theorem dL_cell_0 : decode cL_cell 0 = .ok (.iload_n 1, 1) := by decide +kernel
theorem dL_cell_1 : decode cL_cell 1 = .ok (.aload_n 0, 1) := by decide +kernel
theorem dL_cell_2 : decode cL_cell 2 = .ok (.arraylength, 1) := by decide +kernel
theorem dL_cell_3 : decode cL_cell 3 = .ok (.if_icmp .ge 9, 3) := by decide +kernel
theorem dL_cell_6 : decode cL_cell 6 = .ok (.aload_n 0, 1) := by decide +kernel
theorem dL_cell_7 : decode cL_cell 7 = .ok (.iload_n 1, 1) := by decide +kernel
theorem dL_cell_8 : decode cL_cell 8 = .ok (.iaload, 1) := by decide +kernel
theorem dL_cell_9 : decode cL_cell 9 = .ok (.goto 9, 3) := by decide +kernel
theorem dL_cell_12 : decode cL_cell 12 = .ok (.ldc 7, 2) := by decide +kernel
theorem dL_cell_14 : decode cL_cell 14 = .ok (.iload_n 1, 1) := by decide +kernel
theorem dL_cell_15 : decode cL_cell 15 = .ok (.iconst 1, 1) := by decide +kernel
theorem dL_cell_16 : decode cL_cell 16 = .ok (.iadd, 1) := by decide +kernel
theorem dL_cell_17 : decode cL_cell 17 = .ok (.imul, 1) := by decide +kernel
theorem dL_cell_18 : decode cL_cell 18 = .ok (.ireturn, 1) := by decide +kernel
theorem dL_some_0 : decode cL_some 0 = .ok (.iload_n 0, 1) := by decide +kernel
theorem dL_some_1 : decode cL_some 1 = .ok (.ldc 8, 2) := by decide +kernel
theorem dL_some_3 : decode cL_some 3 = .ok (.iand, 1) := by decide +kernel
theorem dL_some_4 : decode cL_some 4 = .ok (.iload_n 1, 1) := by decide +kernel
theorem dL_some_5 : decode cL_some 5 = .ok (.irem, 1) := by decide +kernel
theorem dL_some_6 : decode cL_some 6 = .ok (.ireturn, 1) := by decide +kernel
theorem dL_put_0 : decode cL_put 0 = .ok (.aload_n 1, 1) := by decide +kernel
theorem dL_put_1 : decode cL_put 1 = .ok (.iload_n 2, 1) := by decide +kernel
theorem dL_put_2 : decode cL_put 2 = .ok (.invokestatic 9, 3) := by decide +kernel
theorem dL_put_5 : decode cL_put 5 = .ok (.istore 5, 2) := by decide +kernel
theorem dL_put_7 : decode cL_put 7 = .ok (.aload 4, 2) := by decide +kernel
theorem dL_put_9 : decode cL_put 9 = .ok (.iconst 0, 1) := by decide +kernel
theorem dL_put_10 : decode cL_put 10 = .ok (.iconst 2, 1) := by decide +kernel
theorem dL_put_11 : decode cL_put 11 = .ok (.iload 5, 2) := by decide +kernel
theorem dL_put_13 : decode cL_put 13 = .ok (.iconst 4, 1) := by decide +kernel
theorem dL_put_14 : decode cL_put 14 = .ok (.invokestatic 15, 3) := by decide +kernel
theorem dL_put_17 : decode cL_put 17 = .ok (.iadd, 1) := by decide +kernel
theorem dL_put_18 : decode cL_put 18 = .ok (.iastore, 1) := by decide +kernel
theorem dL_put_19 : decode cL_put 19 = .ok (.aload 4, 2) := by decide +kernel
theorem dL_put_21 : decode cL_put 21 = .ok (.iconst 1, 1) := by decide +kernel
theorem dL_put_22 : decode cL_put 22 = .ok (.iconst 1, 1) := by decide +kernel
theorem dL_put_23 : decode cL_put 23 = .ok (.iload 5, 2) := by decide +kernel
theorem dL_put_25 : decode cL_put 25 = .ok (.iconst 3, 1) := by decide +kernel
theorem dL_put_26 : decode cL_put 26 = .ok (.ishr, 1) := by decide +kernel
theorem dL_put_27 : decode cL_put 27 = .ok (.iload_n 3, 1) := by decide +kernel
theorem dL_put_28 : decode cL_put 28 = .ok (.invokestatic 15, 3) := by decide +kernel
theorem dL_put_31 : decode cL_put 31 = .ok (.iadd, 1) := by decide +kernel
theorem dL_put_32 : decode cL_put 32 = .ok (.iastore, 1) := by decide +kernel
theorem dL_put_33 : decode cL_put 33 = .ok (.aload 4, 2) := by decide +kernel
theorem dL_put_35 : decode cL_put 35 = .ok (.bipush 32, 2) := by decide +kernel
theorem dL_put_37 : decode cL_put 37 = .ok (.bipush 99, 2) := by decide +kernel
theorem dL_put_39 : decode cL_put 39 = .ok (.iastore, 1) := by decide +kernel
theorem dL_put_40 : decode cL_put 40 = .ok (.aload 4, 2) := by decide +kernel
theorem dL_put_42 : decode cL_put 42 = .ok (.bipush 33, 2) := by decide +kernel
theorem dL_put_44 : decode cL_put 44 = .ok (.iconst 0, 1) := by decide +kernel
theorem dL_put_45 : decode cL_put 45 = .ok (.iastore, 1) := by decide +kernel
theorem dL_put_46 : decode cL_put 46 = .ok (.aload_n 0, 1) := by decide +kernel
theorem dL_put_47 : decode cL_put 47 = .ok (.iconst 0, 1) := by decide +kernel
theorem dL_put_48 : decode cL_put 48 = .ok (.iconst 0, 1) := by decide +kernel
theorem dL_put_49 : decode cL_put 49 = .ok (.bipush 60, 2) := by decide +kernel
theorem dL_put_51 : decode cL_put 51 = .ok (.invokevirtual 19, 3) := by decide +kernel
theorem dL_put_54 : decode cL_put 54 = .ok (.iconst 1, 1) := by decide +kernel
theorem dL_put_55 : decode cL_put 55 = .ok (.if_icmp .ne 32, 3) := by decide +kernel
theorem dL_put_58 : decode cL_put 58 = .ok (.aload_n 0, 1) := by decide +kernel
theorem dL_put_59 : decode cL_put 59 = .ok (.iconst 0, 1) := by decide +kernel
theorem dL_put_60 : decode cL_put 60 = .ok (.iconst 0, 1) := by decide +kernel
theorem dL_put_61 : decode cL_put 61 = .ok (.bipush 105, 2) := by decide +kernel
theorem dL_put_63 : decode cL_put 63 = .ok (.invokevirtual 25, 3) := by decide +kernel
theorem dL_put_66 : decode cL_put 66 = .ok (.iconst 1, 1) := by decide +kernel
theorem dL_put_67 : decode cL_put 67 = .ok (.if_icmp .ne 20, 3) := by decide +kernel
theorem dL_put_70 : decode cL_put 70 = .ok (.aload_n 0, 1) := by decide +kernel
theorem dL_put_71 : decode cL_put 71 = .ok (.iconst 0, 1) := by decide +kernel
theorem dL_put_72 : decode cL_put 72 = .ok (.iconst 1, 1) := by decide +kernel
theorem dL_put_73 : decode cL_put 73 = .ok (.bipush 48, 2) := by decide +kernel
theorem dL_put_75 : decode cL_put 75 = .ok (.aload 4, 2) := by decide +kernel
theorem dL_put_77 : decode cL_put 77 = .ok (.iconst 0, 1) := by decide +kernel
theorem dL_put_78 : decode cL_put 78 = .ok (.iaload, 1) := by decide +kernel
theorem dL_put_79 : decode cL_put 79 = .ok (.iadd, 1) := by decide +kernel
theorem dL_put_80 : decode cL_put 80 = .ok (.invokevirtual 25, 3) := by decide +kernel
theorem dL_put_83 : decode cL_put 83 = .ok (.iconst 1, 1) := by decide +kernel
theorem dL_put_84 : decode cL_put 84 = .ok (.if_icmp .eq 6, 3) := by decide +kernel
theorem dL_put_87 : decode cL_put 87 = .ok (.bipush (-99), 2) := by decide +kernel
theorem dL_put_89 : decode cL_put 89 = .ok (.ireturn, 1) := by decide +kernel
theorem dL_put_90 : decode cL_put 90 = .ok (.iconst 2, 1) := by decide +kernel
theorem dL_put_91 : decode cL_put 91 = .ok (.istore 6, 2) := by decide +kernel
theorem dL_put_93 : decode cL_put 93 = .ok (.iconst 0, 1) := by decide +kernel
theorem dL_put_94 : decode cL_put 94 = .ok (.istore 7, 2) := by decide +kernel
theorem dL_put_96 : decode cL_put 96 = .ok (.iload 7, 2) := by decide +kernel
theorem dL_put_98 : decode cL_put 98 = .ok (.aload 4, 2) := by decide +kernel
theorem dL_put_100 : decode cL_put 100 = .ok (.iconst 1, 1) := by decide +kernel
theorem dL_put_101 : decode cL_put 101 = .ok (.iaload, 1) := by decide +kernel
theorem dL_put_102 : decode cL_put 102 = .ok (.if_icmp .ge 246, 3) := by decide +kernel
theorem dL_put_105 : decode cL_put 105 = .ok (.aload_n 1, 1) := by decide +kernel
theorem dL_put_106 : decode cL_put 106 = .ok (.iload_n 2, 1) := by decide +kernel
theorem dL_put_107 : decode cL_put 107 = .ok (.iconst 1, 1) := by decide +kernel
theorem dL_put_108 : decode cL_put 108 = .ok (.iadd, 1) := by decide +kernel
theorem dL_put_109 : decode cL_put 109 = .ok (.iload 7, 2) := by decide +kernel
theorem dL_put_111 : decode cL_put 111 = .ok (.iconst 4, 1) := by decide +kernel
theorem dL_put_112 : decode cL_put 112 = .ok (.irem, 1) := by decide +kernel
theorem dL_put_113 : decode cL_put 113 = .ok (.iadd, 1) := by decide +kernel
theorem dL_put_114 : decode cL_put 114 = .ok (.invokestatic 9, 3) := by decide +kernel
theorem dL_put_117 : decode cL_put 117 = .ok (.iload 7, 2) := by decide +kernel
theorem dL_put_119 : decode cL_put 119 = .ok (.iconst 4, 1) := by decide +kernel
theorem dL_put_120 : decode cL_put 120 = .ok (.idiv, 1) := by decide +kernel
theorem dL_put_121 : decode cL_put 121 = .ok (.bipush 9, 2) := by decide +kernel
theorem dL_put_123 : decode cL_put 123 = .ok (.imul, 1) := by decide +kernel
theorem dL_put_124 : decode cL_put 124 = .ok (.ishr, 1) := by decide +kernel
theorem dL_put_125 : decode cL_put 125 = .ok (.istore 8, 2) := by decide +kernel
theorem dL_put_127 : decode cL_put 127 = .ok (.aload 4, 2) := by decide +kernel
theorem dL_put_129 : decode cL_put 129 = .ok (.iconst 2, 1) := by decide +kernel
theorem dL_put_130 : decode cL_put 130 = .ok (.iload 7, 2) := by decide +kernel
theorem dL_put_132 : decode cL_put 132 = .ok (.iadd, 1) := by decide +kernel
theorem dL_put_133 : decode cL_put 133 = .ok (.iload 8, 2) := by decide +kernel
theorem dL_put_135 : decode cL_put 135 = .ok (.iconst 3, 1) := by decide +kernel
theorem dL_put_136 : decode cL_put 136 = .ok (.invokestatic 15, 3) := by decide +kernel
theorem dL_put_139 : decode cL_put 139 = .ok (.iastore, 1) := by decide +kernel
theorem dL_put_140 : decode cL_put 140 = .ok (.aload 4, 2) := by decide +kernel
theorem dL_put_142 : decode cL_put 142 = .ok (.bipush 12, 2) := by decide +kernel
theorem dL_put_144 : decode cL_put 144 = .ok (.iload 7, 2) := by decide +kernel
theorem dL_put_146 : decode cL_put 146 = .ok (.iadd, 1) := by decide +kernel
theorem dL_put_147 : decode cL_put 147 = .ok (.iload 8, 2) := by decide +kernel
theorem dL_put_149 : decode cL_put 149 = .ok (.iconst 1, 1) := by decide +kernel
theorem dL_put_150 : decode cL_put 150 = .ok (.ishr, 1) := by decide +kernel
theorem dL_put_151 : decode cL_put 151 = .ok (.aload 4, 2) := by decide +kernel
theorem dL_put_153 : decode cL_put 153 = .ok (.iconst 0, 1) := by decide +kernel
theorem dL_put_154 : decode cL_put 154 = .ok (.iaload, 1) := by decide +kernel
theorem dL_put_155 : decode cL_put 155 = .ok (.invokestatic 15, 3) := by decide +kernel
theorem dL_put_158 : decode cL_put 158 = .ok (.iastore, 1) := by decide +kernel
theorem dL_put_159 : decode cL_put 159 = .ok (.aload 4, 2) := by decide +kernel
theorem dL_put_161 : decode cL_put 161 = .ok (.bipush 22, 2) := by decide +kernel
theorem dL_put_163 : decode cL_put 163 = .ok (.iload 7, 2) := by decide +kernel
theorem dL_put_165 : decode cL_put 165 = .ok (.iadd, 1) := by decide +kernel
theorem dL_put_166 : decode cL_put 166 = .ok (.iconst 1, 1) := by decide +kernel
theorem dL_put_167 : decode cL_put 167 = .ok (.iload 8, 2) := by decide +kernel
theorem dL_put_169 : decode cL_put 169 = .ok (.iconst 3, 1) := by decide +kernel
theorem dL_put_170 : decode cL_put 170 = .ok (.ishr, 1) := by decide +kernel
theorem dL_put_171 : decode cL_put 171 = .ok (.iload 5, 2) := by decide +kernel
theorem dL_put_173 : decode cL_put 173 = .ok (.bipush 7, 2) := by decide +kernel
theorem dL_put_175 : decode cL_put 175 = .ok (.ishr, 1) := by decide +kernel
theorem dL_put_176 : decode cL_put 176 = .ok (.iconst 2, 1) := by decide +kernel
theorem dL_put_177 : decode cL_put 177 = .ok (.invokestatic 15, 3) := by decide +kernel
theorem dL_put_180 : decode cL_put 180 = .ok (.ifCond .ne 8, 3) := by decide +kernel
theorem dL_put_183 : decode cL_put 183 = .ok (.bipush 99, 2) := by decide +kernel
theorem dL_put_185 : decode cL_put 185 = .ok (.goto 5, 3) := by decide +kernel
theorem dL_put_188 : decode cL_put 188 = .ok (.bipush 25, 2) := by decide +kernel
theorem dL_put_190 : decode cL_put 190 = .ok (.invokestatic 15, 3) := by decide +kernel
theorem dL_put_193 : decode cL_put 193 = .ok (.iadd, 1) := by decide +kernel
theorem dL_put_194 : decode cL_put 194 = .ok (.iastore, 1) := by decide +kernel
theorem dL_put_195 : decode cL_put 195 = .ok (.aload_n 0, 1) := by decide +kernel
theorem dL_put_196 : decode cL_put 196 = .ok (.iconst 0, 1) := by decide +kernel
theorem dL_put_197 : decode cL_put 197 = .ok (.iload 6, 2) := by decide +kernel
theorem dL_put_199 : decode cL_put 199 = .ok (.iinc 6 1, 3) := by decide +kernel
theorem dL_put_202 : decode cL_put 202 = .ok (.bipush 59, 2) := by decide +kernel
theorem dL_put_204 : decode cL_put 204 = .ok (.invokevirtual 25, 3) := by decide +kernel
theorem dL_put_207 : decode cL_put 207 = .ok (.iconst 1, 1) := by decide +kernel
theorem dL_put_208 : decode cL_put 208 = .ok (.if_icmp .ne 131, 3) := by decide +kernel
theorem dL_put_211 : decode cL_put 211 = .ok (.aload_n 0, 1) := by decide +kernel
theorem dL_put_212 : decode cL_put 212 = .ok (.iconst 0, 1) := by decide +kernel
theorem dL_put_213 : decode cL_put 213 = .ok (.iload 6, 2) := by decide +kernel
theorem dL_put_215 : decode cL_put 215 = .ok (.iinc 6 1, 3) := by decide +kernel
theorem dL_put_218 : decode cL_put 218 = .ok (.aload 4, 2) := by decide +kernel
theorem dL_put_220 : decode cL_put 220 = .ok (.iconst 2, 1) := by decide +kernel
theorem dL_put_221 : decode cL_put 221 = .ok (.iload 7, 2) := by decide +kernel
theorem dL_put_223 : decode cL_put 223 = .ok (.iadd, 1) := by decide +kernel
theorem dL_put_224 : decode cL_put 224 = .ok (.iaload, 1) := by decide +kernel
theorem dL_put_225 : decode cL_put 225 = .ok (.ifCond .ne 8, 3) := by decide +kernel
theorem dL_put_228 : decode cL_put 228 = .ok (.bipush 116, 2) := by decide +kernel
theorem dL_put_230 : decode cL_put 230 = .ok (.goto 21, 3) := by decide +kernel
theorem dL_put_233 : decode cL_put 233 = .ok (.aload 4, 2) := by decide +kernel
theorem dL_put_235 : decode cL_put 235 = .ok (.iconst 2, 1) := by decide +kernel
theorem dL_put_236 : decode cL_put 236 = .ok (.iload 7, 2) := by decide +kernel
theorem dL_put_238 : decode cL_put 238 = .ok (.iadd, 1) := by decide +kernel
theorem dL_put_239 : decode cL_put 239 = .ok (.iaload, 1) := by decide +kernel
theorem dL_put_240 : decode cL_put 240 = .ok (.iconst 1, 1) := by decide +kernel
theorem dL_put_241 : decode cL_put 241 = .ok (.if_icmp .ne 8, 3) := by decide +kernel
theorem dL_put_244 : decode cL_put 244 = .ok (.bipush 103, 2) := by decide +kernel
theorem dL_put_246 : decode cL_put 246 = .ok (.goto 5, 3) := by decide +kernel
theorem dL_put_249 : decode cL_put 249 = .ok (.bipush 119, 2) := by decide +kernel
theorem dL_put_251 : decode cL_put 251 = .ok (.invokevirtual 25, 3) := by decide +kernel
theorem dL_put_254 : decode cL_put 254 = .ok (.iconst 1, 1) := by decide +kernel
theorem dL_put_255 : decode cL_put 255 = .ok (.if_icmp .ne 84, 3) := by decide +kernel
theorem dL_put_258 : decode cL_put 258 = .ok (.aload_n 0, 1) := by decide +kernel
theorem dL_put_259 : decode cL_put 259 = .ok (.iconst 0, 1) := by decide +kernel
theorem dL_put_260 : decode cL_put 260 = .ok (.iload 6, 2) := by decide +kernel
theorem dL_put_262 : decode cL_put 262 = .ok (.iinc 6 1, 3) := by decide +kernel
theorem dL_put_265 : decode cL_put 265 = .ok (.bipush 48, 2) := by decide +kernel
theorem dL_put_267 : decode cL_put 267 = .ok (.aload 4, 2) := by decide +kernel
theorem dL_put_269 : decode cL_put 269 = .ok (.bipush 12, 2) := by decide +kernel
theorem dL_put_271 : decode cL_put 271 = .ok (.iload 7, 2) := by decide +kernel
theorem dL_put_273 : decode cL_put 273 = .ok (.iadd, 1) := by decide +kernel
theorem dL_put_274 : decode cL_put 274 = .ok (.iaload, 1) := by decide +kernel
theorem dL_put_275 : decode cL_put 275 = .ok (.iadd, 1) := by decide +kernel
theorem dL_put_276 : decode cL_put 276 = .ok (.invokevirtual 25, 3) := by decide +kernel
theorem dL_put_279 : decode cL_put 279 = .ok (.iconst 1, 1) := by decide +kernel
theorem dL_put_280 : decode cL_put 280 = .ok (.if_icmp .ne 59, 3) := by decide +kernel
theorem dL_put_283 : decode cL_put 283 = .ok (.aload_n 0, 1) := by decide +kernel
theorem dL_put_284 : decode cL_put 284 = .ok (.iconst 0, 1) := by decide +kernel
theorem dL_put_285 : decode cL_put 285 = .ok (.iload 6, 2) := by decide +kernel
theorem dL_put_287 : decode cL_put 287 = .ok (.iinc 6 1, 3) := by decide +kernel
theorem dL_put_290 : decode cL_put 290 = .ok (.bipush 48, 2) := by decide +kernel
theorem dL_put_292 : decode cL_put 292 = .ok (.aload 4, 2) := by decide +kernel
theorem dL_put_294 : decode cL_put 294 = .ok (.bipush 22, 2) := by decide +kernel
theorem dL_put_296 : decode cL_put 296 = .ok (.iload 7, 2) := by decide +kernel
theorem dL_put_298 : decode cL_put 298 = .ok (.iadd, 1) := by decide +kernel
theorem dL_put_299 : decode cL_put 299 = .ok (.iaload, 1) := by decide +kernel
theorem dL_put_300 : decode cL_put 300 = .ok (.bipush 10, 2) := by decide +kernel
theorem dL_put_302 : decode cL_put 302 = .ok (.idiv, 1) := by decide +kernel
theorem dL_put_303 : decode cL_put 303 = .ok (.iadd, 1) := by decide +kernel
theorem dL_put_304 : decode cL_put 304 = .ok (.invokevirtual 25, 3) := by decide +kernel
theorem dL_put_307 : decode cL_put 307 = .ok (.iconst 1, 1) := by decide +kernel
theorem dL_put_308 : decode cL_put 308 = .ok (.if_icmp .ne 31, 3) := by decide +kernel
theorem dL_put_311 : decode cL_put 311 = .ok (.aload_n 0, 1) := by decide +kernel
theorem dL_put_312 : decode cL_put 312 = .ok (.iconst 0, 1) := by decide +kernel
theorem dL_put_313 : decode cL_put 313 = .ok (.iload 6, 2) := by decide +kernel
theorem dL_put_315 : decode cL_put 315 = .ok (.iinc 6 1, 3) := by decide +kernel
theorem dL_put_318 : decode cL_put 318 = .ok (.bipush 48, 2) := by decide +kernel
theorem dL_put_320 : decode cL_put 320 = .ok (.aload 4, 2) := by decide +kernel
theorem dL_put_322 : decode cL_put 322 = .ok (.bipush 22, 2) := by decide +kernel
theorem dL_put_324 : decode cL_put 324 = .ok (.iload 7, 2) := by decide +kernel
theorem dL_put_326 : decode cL_put 326 = .ok (.iadd, 1) := by decide +kernel
theorem dL_put_327 : decode cL_put 327 = .ok (.iaload, 1) := by decide +kernel
theorem dL_put_328 : decode cL_put 328 = .ok (.bipush 10, 2) := by decide +kernel
theorem dL_put_330 : decode cL_put 330 = .ok (.irem, 1) := by decide +kernel
theorem dL_put_331 : decode cL_put 331 = .ok (.iadd, 1) := by decide +kernel
theorem dL_put_332 : decode cL_put 332 = .ok (.invokevirtual 25, 3) := by decide +kernel
theorem dL_put_335 : decode cL_put 335 = .ok (.iconst 1, 1) := by decide +kernel
theorem dL_put_336 : decode cL_put 336 = .ok (.if_icmp .eq 6, 3) := by decide +kernel
theorem dL_put_339 : decode cL_put 339 = .ok (.bipush (-99), 2) := by decide +kernel
theorem dL_put_341 : decode cL_put 341 = .ok (.ireturn, 1) := by decide +kernel
theorem dL_put_342 : decode cL_put 342 = .ok (.iinc 7 1, 3) := by decide +kernel
theorem dL_put_345 : decode cL_put 345 = .ok (.goto (-249), 3) := by decide +kernel
theorem dL_put_348 : decode cL_put 348 = .ok (.iload 6, 2) := by decide +kernel
theorem dL_put_350 : decode cL_put 350 = .ok (.ireturn, 1) := by decide +kernel
theorem dL_times_0 : decode cL_times 0 = .ok (.iconst 0, 1) := by decide +kernel
theorem dL_times_1 : decode cL_times 1 = .ok (.istore_n 3, 1) := by decide +kernel
theorem dL_times_2 : decode cL_times 2 = .ok (.iconst 0, 1) := by decide +kernel
theorem dL_times_3 : decode cL_times 3 = .ok (.istore 4, 2) := by decide +kernel
theorem dL_times_5 : decode cL_times 5 = .ok (.iload 4, 2) := by decide +kernel
theorem dL_times_7 : decode cL_times 7 = .ok (.iconst 5, 1) := by decide +kernel
theorem dL_times_8 : decode cL_times 8 = .ok (.iload_n 1, 1) := by decide +kernel
theorem dL_times_9 : decode cL_times 9 = .ok (.imul, 1) := by decide +kernel
theorem dL_times_10 : decode cL_times 10 = .ok (.if_icmp .ge 25, 3) := by decide +kernel
theorem dL_times_13 : decode cL_times 13 = .ok (.iload_n 3, 1) := by decide +kernel
theorem dL_times_14 : decode cL_times 14 = .ok (.aload_n 0, 1) := by decide +kernel
theorem dL_times_15 : decode cL_times 15 = .ok (.iload 4, 2) := by decide +kernel
theorem dL_times_17 : decode cL_times 17 = .ok (.iaload, 1) := by decide +kernel
theorem dL_times_18 : decode cL_times 18 = .ok (.iload_n 2, 1) := by decide +kernel
theorem dL_times_19 : decode cL_times 19 = .ok (.if_icmp .ne 7, 3) := by decide +kernel
theorem dL_times_22 : decode cL_times 22 = .ok (.iconst 1, 1) := by decide +kernel
theorem dL_times_23 : decode cL_times 23 = .ok (.goto 4, 3) := by decide +kernel
theorem dL_times_26 : decode cL_times 26 = .ok (.iconst 0, 1) := by decide +kernel
theorem dL_times_27 : decode cL_times 27 = .ok (.iadd, 1) := by decide +kernel
theorem dL_times_28 : decode cL_times 28 = .ok (.istore_n 3, 1) := by decide +kernel
theorem dL_times_29 : decode cL_times 29 = .ok (.iinc 4 1, 3) := by decide +kernel
theorem dL_times_32 : decode cL_times 32 = .ok (.goto (-27), 3) := by decide +kernel
theorem dL_times_35 : decode cL_times 35 = .ok (.iload_n 3, 1) := by decide +kernel
theorem dL_times_36 : decode cL_times 36 = .ok (.ireturn, 1) := by decide +kernel
theorem dL_last_0 : decode cL_last 0 = .ok (.bipush (-9), 2) := by decide +kernel
theorem dL_last_2 : decode cL_last 2 = .ok (.istore_n 3, 1) := by decide +kernel
theorem dL_last_3 : decode cL_last 3 = .ok (.iconst 0, 1) := by decide +kernel
theorem dL_last_4 : decode cL_last 4 = .ok (.istore 4, 2) := by decide +kernel
theorem dL_last_6 : decode cL_last 6 = .ok (.iload 4, 2) := by decide +kernel
theorem dL_last_8 : decode cL_last 8 = .ok (.iconst 5, 1) := by decide +kernel
theorem dL_last_9 : decode cL_last 9 = .ok (.iload_n 1, 1) := by decide +kernel
theorem dL_last_10 : decode cL_last 10 = .ok (.imul, 1) := by decide +kernel
theorem dL_last_11 : decode cL_last 11 = .ok (.if_icmp .ge 26, 3) := by decide +kernel
theorem dL_last_14 : decode cL_last 14 = .ok (.aload_n 0, 1) := by decide +kernel
theorem dL_last_15 : decode cL_last 15 = .ok (.iload 4, 2) := by decide +kernel
theorem dL_last_17 : decode cL_last 17 = .ok (.iaload, 1) := by decide +kernel
theorem dL_last_18 : decode cL_last 18 = .ok (.iload_n 2, 1) := by decide +kernel
theorem dL_last_19 : decode cL_last 19 = .ok (.if_icmp .ne 10, 3) := by decide +kernel
theorem dL_last_22 : decode cL_last 22 = .ok (.iload 4, 2) := by decide +kernel
theorem dL_last_24 : decode cL_last 24 = .ok (.iconst 5, 1) := by decide +kernel
theorem dL_last_25 : decode cL_last 25 = .ok (.idiv, 1) := by decide +kernel
theorem dL_last_26 : decode cL_last 26 = .ok (.goto 4, 3) := by decide +kernel
theorem dL_last_29 : decode cL_last 29 = .ok (.iload_n 3, 1) := by decide +kernel
theorem dL_last_30 : decode cL_last 30 = .ok (.istore_n 3, 1) := by decide +kernel
theorem dL_last_31 : decode cL_last 31 = .ok (.iinc 4 1, 3) := by decide +kernel
theorem dL_last_34 : decode cL_last 34 = .ok (.goto (-28), 3) := by decide +kernel
theorem dL_last_37 : decode cL_last 37 = .ok (.iload_n 3, 1) := by decide +kernel
theorem dL_last_38 : decode cL_last 38 = .ok (.ireturn, 1) := by decide +kernel
theorem dL_may_0 : decode cL_may 0 = .ok (.aload_n 1, 1) := by decide +kernel
theorem dL_may_1 : decode cL_may 1 = .ok (.aload_n 0, 1) := by decide +kernel
theorem dL_may_2 : decode cL_may 2 = .ok (.bipush 33, 2) := by decide +kernel
theorem dL_may_4 : decode cL_may 4 = .ok (.iaload, 1) := by decide +kernel
theorem dL_may_5 : decode cL_may 5 = .ok (.iload_n 2, 1) := by decide +kernel
theorem dL_may_6 : decode cL_may 6 = .ok (.invokestatic 28, 3) := by decide +kernel
theorem dL_may_9 : decode cL_may 9 = .ok (.istore_n 3, 1) := by decide +kernel
theorem dL_may_10 : decode cL_may 10 = .ok (.iload_n 3, 1) := by decide +kernel
theorem dL_may_11 : decode cL_may 11 = .ok (.ifCond .ge 5, 3) := by decide +kernel
theorem dL_may_14 : decode cL_may 14 = .ok (.iconst 1, 1) := by decide +kernel
theorem dL_may_15 : decode cL_may 15 = .ok (.ireturn, 1) := by decide +kernel
theorem dL_may_16 : decode cL_may 16 = .ok (.aload_n 0, 1) := by decide +kernel
theorem dL_may_17 : decode cL_may 17 = .ok (.iconst 2, 1) := by decide +kernel
theorem dL_may_18 : decode cL_may 18 = .ok (.iload_n 2, 1) := by decide +kernel
theorem dL_may_19 : decode cL_may 19 = .ok (.iadd, 1) := by decide +kernel
theorem dL_may_20 : decode cL_may 20 = .ok (.iaload, 1) := by decide +kernel
theorem dL_may_21 : decode cL_may 21 = .ok (.ifCond .ne 24, 3) := by decide +kernel
theorem dL_may_24 : decode cL_may 24 = .ok (.aload_n 0, 1) := by decide +kernel
theorem dL_may_25 : decode cL_may 25 = .ok (.bipush 33, 2) := by decide +kernel
theorem dL_may_27 : decode cL_may 27 = .ok (.iaload, 1) := by decide +kernel
theorem dL_may_28 : decode cL_may 28 = .ok (.iload_n 3, 1) := by decide +kernel
theorem dL_may_29 : decode cL_may 29 = .ok (.isub, 1) := by decide +kernel
theorem dL_may_30 : decode cL_may 30 = .ok (.aload_n 0, 1) := by decide +kernel
theorem dL_may_31 : decode cL_may 31 = .ok (.bipush 32, 2) := by decide +kernel
theorem dL_may_33 : decode cL_may 33 = .ok (.iaload, 1) := by decide +kernel
theorem dL_may_34 : decode cL_may 34 = .ok (.if_icmp .le 7, 3) := by decide +kernel
theorem dL_may_37 : decode cL_may 37 = .ok (.iconst 1, 1) := by decide +kernel
theorem dL_may_38 : decode cL_may 38 = .ok (.goto 31, 3) := by decide +kernel
theorem dL_may_41 : decode cL_may 41 = .ok (.iconst 0, 1) := by decide +kernel
theorem dL_may_42 : decode cL_may 42 = .ok (.goto 27, 3) := by decide +kernel
theorem dL_may_45 : decode cL_may 45 = .ok (.aload_n 0, 1) := by decide +kernel
theorem dL_may_46 : decode cL_may 46 = .ok (.iconst 2, 1) := by decide +kernel
theorem dL_may_47 : decode cL_may 47 = .ok (.iload_n 2, 1) := by decide +kernel
theorem dL_may_48 : decode cL_may 48 = .ok (.iadd, 1) := by decide +kernel
theorem dL_may_49 : decode cL_may 49 = .ok (.iaload, 1) := by decide +kernel
theorem dL_may_50 : decode cL_may 50 = .ok (.iconst 1, 1) := by decide +kernel
theorem dL_may_51 : decode cL_may 51 = .ok (.if_icmp .ne 17, 3) := by decide +kernel
theorem dL_may_54 : decode cL_may 54 = .ok (.aload_n 0, 1) := by decide +kernel
theorem dL_may_55 : decode cL_may 55 = .ok (.bipush 33, 2) := by decide +kernel
theorem dL_may_57 : decode cL_may 57 = .ok (.iaload, 1) := by decide +kernel
theorem dL_may_58 : decode cL_may 58 = .ok (.iload_n 3, 1) := by decide +kernel
theorem dL_may_59 : decode cL_may 59 = .ok (.isub, 1) := by decide +kernel
theorem dL_may_60 : decode cL_may 60 = .ok (.iconst 1, 1) := by decide +kernel
theorem dL_may_61 : decode cL_may 61 = .ok (.if_icmp .le 7, 3) := by decide +kernel
theorem dL_may_64 : decode cL_may 64 = .ok (.iconst 1, 1) := by decide +kernel
theorem dL_may_65 : decode cL_may 65 = .ok (.goto 4, 3) := by decide +kernel
theorem dL_may_68 : decode cL_may 68 = .ok (.iconst 0, 1) := by decide +kernel
theorem dL_may_69 : decode cL_may 69 = .ok (.ireturn, 1) := by decide +kernel
theorem dL_tall_0 : decode cL_tall 0 = .ok (.aload_n 0, 1) := by decide +kernel
theorem dL_tall_1 : decode cL_tall 1 = .ok (.bipush 22, 2) := by decide +kernel
theorem dL_tall_3 : decode cL_tall 3 = .ok (.iload_n 3, 1) := by decide +kernel
theorem dL_tall_4 : decode cL_tall 4 = .ok (.iadd, 1) := by decide +kernel
theorem dL_tall_5 : decode cL_tall 5 = .ok (.iaload, 1) := by decide +kernel
theorem dL_tall_6 : decode cL_tall 6 = .ok (.aload_n 0, 1) := by decide +kernel
theorem dL_tall_7 : decode cL_tall 7 = .ok (.iconst 2, 1) := by decide +kernel
theorem dL_tall_8 : decode cL_tall 8 = .ok (.iload_n 3, 1) := by decide +kernel
theorem dL_tall_9 : decode cL_tall 9 = .ok (.iadd, 1) := by decide +kernel
theorem dL_tall_10 : decode cL_tall 10 = .ok (.iaload, 1) := by decide +kernel
theorem dL_tall_11 : decode cL_tall 11 = .ok (.iconst 2, 1) := by decide +kernel
theorem dL_tall_12 : decode cL_tall 12 = .ok (.if_icmp .ne 9, 3) := by decide +kernel
theorem dL_tall_15 : decode cL_tall 15 = .ok (.sipush 900, 3) := by decide +kernel
theorem dL_tall_18 : decode cL_tall 18 = .ok (.goto 25, 3) := by decide +kernel
theorem dL_tall_21 : decode cL_tall 21 = .ok (.aload_n 0, 1) := by decide +kernel
theorem dL_tall_22 : decode cL_tall 22 = .ok (.iconst 2, 1) := by decide +kernel
theorem dL_tall_23 : decode cL_tall 23 = .ok (.iload_n 3, 1) := by decide +kernel
theorem dL_tall_24 : decode cL_tall 24 = .ok (.iadd, 1) := by decide +kernel
theorem dL_tall_25 : decode cL_tall 25 = .ok (.iaload, 1) := by decide +kernel
theorem dL_tall_26 : decode cL_tall 26 = .ok (.iconst 1, 1) := by decide +kernel
theorem dL_tall_27 : decode cL_tall 27 = .ok (.if_icmp .ne 15, 3) := by decide +kernel
theorem dL_tall_30 : decode cL_tall 30 = .ok (.bipush 10, 2) := by decide +kernel
theorem dL_tall_32 : decode cL_tall 32 = .ok (.aload_n 1, 1) := by decide +kernel
theorem dL_tall_33 : decode cL_tall 33 = .ok (.iload_n 2, 1) := by decide +kernel
theorem dL_tall_34 : decode cL_tall 34 = .ok (.iload_n 3, 1) := by decide +kernel
theorem dL_tall_35 : decode cL_tall 35 = .ok (.invokestatic 32, 3) := by decide +kernel
theorem dL_tall_38 : decode cL_tall 38 = .ok (.imul, 1) := by decide +kernel
theorem dL_tall_39 : decode cL_tall 39 = .ok (.goto 4, 3) := by decide +kernel
theorem dL_tall_42 : decode cL_tall 42 = .ok (.iconst 0, 1) := by decide +kernel
theorem dL_tall_43 : decode cL_tall 43 = .ok (.iadd, 1) := by decide +kernel
theorem dL_tall_44 : decode cL_tall 44 = .ok (.ireturn, 1) := by decide +kernel
theorem dL_place_0 : decode cL_place 0 = .ok (.aload_n 3, 1) := by decide +kernel
theorem dL_place_1 : decode cL_place 1 = .ok (.iload 4, 2) := by decide +kernel
theorem dL_place_3 : decode cL_place 3 = .ok (.iload 5, 2) := by decide +kernel
theorem dL_place_5 : decode cL_place 5 = .ok (.iadd, 1) := by decide +kernel
theorem dL_place_6 : decode cL_place 6 = .ok (.iaload, 1) := by decide +kernel
theorem dL_place_7 : decode cL_place 7 = .ok (.ifCond .ge 7, 3) := by decide +kernel
theorem dL_place_10 : decode cL_place 10 = .ok (.iconst 0, 1) := by decide +kernel
theorem dL_place_11 : decode cL_place 11 = .ok (.goto 16, 3) := by decide +kernel
theorem dL_place_14 : decode cL_place 14 = .ok (.aload_n 0, 1) := by decide +kernel
theorem dL_place_15 : decode cL_place 15 = .ok (.aload_n 1, 1) := by decide +kernel
theorem dL_place_16 : decode cL_place 16 = .ok (.iload_n 2, 1) := by decide +kernel
theorem dL_place_17 : decode cL_place 17 = .ok (.aload_n 3, 1) := by decide +kernel
theorem dL_place_18 : decode cL_place 18 = .ok (.iload 4, 2) := by decide +kernel
theorem dL_place_20 : decode cL_place 20 = .ok (.iload 5, 2) := by decide +kernel
theorem dL_place_22 : decode cL_place 22 = .ok (.iadd, 1) := by decide +kernel
theorem dL_place_23 : decode cL_place 23 = .ok (.iaload, 1) := by decide +kernel
theorem dL_place_24 : decode cL_place 24 = .ok (.invokestatic 35, 3) := by decide +kernel
theorem dL_place_27 : decode cL_place 27 = .ok (.istore 6, 2) := by decide +kernel
theorem dL_place_29 : decode cL_place 29 = .ok (.iconst 0, 1) := by decide +kernel
theorem dL_place_30 : decode cL_place 30 = .ok (.istore 7, 2) := by decide +kernel
theorem dL_place_32 : decode cL_place 32 = .ok (.iconst 0, 1) := by decide +kernel
theorem dL_place_33 : decode cL_place 33 = .ok (.istore 8, 2) := by decide +kernel
theorem dL_place_35 : decode cL_place 35 = .ok (.iload 8, 2) := by decide +kernel
theorem dL_place_37 : decode cL_place 37 = .ok (.aload_n 0, 1) := by decide +kernel
theorem dL_place_38 : decode cL_place 38 = .ok (.iconst 0, 1) := by decide +kernel
theorem dL_place_39 : decode cL_place 39 = .ok (.iaload, 1) := by decide +kernel
theorem dL_place_40 : decode cL_place 40 = .ok (.if_icmp .ge 69, 3) := by decide +kernel
theorem dL_place_43 : decode cL_place 43 = .ok (.aload_n 3, 1) := by decide +kernel
theorem dL_place_44 : decode cL_place 44 = .ok (.iload 4, 2) := by decide +kernel
theorem dL_place_46 : decode cL_place 46 = .ok (.iload 8, 2) := by decide +kernel
theorem dL_place_48 : decode cL_place 48 = .ok (.iadd, 1) := by decide +kernel
theorem dL_place_49 : decode cL_place 49 = .ok (.iaload, 1) := by decide +kernel
theorem dL_place_50 : decode cL_place 50 = .ok (.ifCond .ge 7, 3) := by decide +kernel
theorem dL_place_53 : decode cL_place 53 = .ok (.iconst 0, 1) := by decide +kernel
theorem dL_place_54 : decode cL_place 54 = .ok (.goto 16, 3) := by decide +kernel
theorem dL_place_57 : decode cL_place 57 = .ok (.aload_n 0, 1) := by decide +kernel
theorem dL_place_58 : decode cL_place 58 = .ok (.aload_n 1, 1) := by decide +kernel
theorem dL_place_59 : decode cL_place 59 = .ok (.iload_n 2, 1) := by decide +kernel
theorem dL_place_60 : decode cL_place 60 = .ok (.aload_n 3, 1) := by decide +kernel
theorem dL_place_61 : decode cL_place 61 = .ok (.iload 4, 2) := by decide +kernel
theorem dL_place_63 : decode cL_place 63 = .ok (.iload 8, 2) := by decide +kernel
theorem dL_place_65 : decode cL_place 65 = .ok (.iadd, 1) := by decide +kernel
theorem dL_place_66 : decode cL_place 66 = .ok (.iaload, 1) := by decide +kernel
theorem dL_place_67 : decode cL_place 67 = .ok (.invokestatic 35, 3) := by decide +kernel
theorem dL_place_70 : decode cL_place 70 = .ok (.istore 9, 2) := by decide +kernel
theorem dL_place_72 : decode cL_place 72 = .ok (.iload 7, 2) := by decide +kernel
theorem dL_place_74 : decode cL_place 74 = .ok (.iload 9, 2) := by decide +kernel
theorem dL_place_76 : decode cL_place 76 = .ok (.iload 6, 2) := by decide +kernel
theorem dL_place_78 : decode cL_place 78 = .ok (.if_icmp .gt 17, 3) := by decide +kernel
theorem dL_place_81 : decode cL_place 81 = .ok (.iload 9, 2) := by decide +kernel
theorem dL_place_83 : decode cL_place 83 = .ok (.iload 6, 2) := by decide +kernel
theorem dL_place_85 : decode cL_place 85 = .ok (.if_icmp .ne 14, 3) := by decide +kernel
theorem dL_place_88 : decode cL_place 88 = .ok (.iload 8, 2) := by decide +kernel
theorem dL_place_90 : decode cL_place 90 = .ok (.iload 5, 2) := by decide +kernel
theorem dL_place_92 : decode cL_place 92 = .ok (.if_icmp .ge 7, 3) := by decide +kernel
theorem dL_place_95 : decode cL_place 95 = .ok (.iconst 1, 1) := by decide +kernel
theorem dL_place_96 : decode cL_place 96 = .ok (.goto 4, 3) := by decide +kernel
theorem dL_place_99 : decode cL_place 99 = .ok (.iconst 0, 1) := by decide +kernel
theorem dL_place_100 : decode cL_place 100 = .ok (.iadd, 1) := by decide +kernel
theorem dL_place_101 : decode cL_place 101 = .ok (.istore 7, 2) := by decide +kernel
theorem dL_place_103 : decode cL_place 103 = .ok (.iinc 8 1, 3) := by decide +kernel
theorem dL_place_106 : decode cL_place 106 = .ok (.goto (-71), 3) := by decide +kernel
theorem dL_place_109 : decode cL_place 109 = .ok (.iload 7, 2) := by decide +kernel
theorem dL_place_111 : decode cL_place 111 = .ok (.ireturn, 1) := by decide +kernel
theorem dL_choose_0 : decode cL_choose 0 = .ok (.iconst 0, 1) := by decide +kernel
theorem dL_choose_1 : decode cL_choose 1 = .ok (.istore 5, 2) := by decide +kernel
theorem dL_choose_3 : decode cL_choose 3 = .ok (.iload 5, 2) := by decide +kernel
theorem dL_choose_5 : decode cL_choose 5 = .ok (.aload_n 2, 1) := by decide +kernel
theorem dL_choose_6 : decode cL_choose 6 = .ok (.iconst 0, 1) := by decide +kernel
theorem dL_choose_7 : decode cL_choose 7 = .ok (.iaload, 1) := by decide +kernel
theorem dL_choose_8 : decode cL_choose 8 = .ok (.if_icmp .ge 190, 3) := by decide +kernel
theorem dL_choose_11 : decode cL_choose 11 = .ok (.iload_n 1, 1) := by decide +kernel
theorem dL_choose_12 : decode cL_choose 12 = .ok (.iconst 2, 1) := by decide +kernel
theorem dL_choose_13 : decode cL_choose 13 = .ok (.iload 5, 2) := by decide +kernel
theorem dL_choose_15 : decode cL_choose 15 = .ok (.imul, 1) := by decide +kernel
theorem dL_choose_16 : decode cL_choose 16 = .ok (.ishr, 1) := by decide +kernel
theorem dL_choose_17 : decode cL_choose 17 = .ok (.aload_n 2, 1) := by decide +kernel
theorem dL_choose_18 : decode cL_choose 18 = .ok (.iconst 1, 1) := by decide +kernel
theorem dL_choose_19 : decode cL_choose 19 = .ok (.iaload, 1) := by decide +kernel
theorem dL_choose_20 : decode cL_choose 20 = .ok (.iconst 1, 1) := by decide +kernel
theorem dL_choose_21 : decode cL_choose 21 = .ok (.iadd, 1) := by decide +kernel
theorem dL_choose_22 : decode cL_choose 22 = .ok (.invokestatic 15, 3) := by decide +kernel
theorem dL_choose_25 : decode cL_choose 25 = .ok (.istore 6, 2) := by decide +kernel
theorem dL_choose_27 : decode cL_choose 27 = .ok (.iconst 0, 1) := by decide +kernel
theorem dL_choose_28 : decode cL_choose 28 = .ok (.istore 7, 2) := by decide +kernel
theorem dL_choose_30 : decode cL_choose 30 = .ok (.iload 7, 2) := by decide +kernel
theorem dL_choose_32 : decode cL_choose 32 = .ok (.aload_n 2, 1) := by decide +kernel
theorem dL_choose_33 : decode cL_choose 33 = .ok (.iconst 1, 1) := by decide +kernel
theorem dL_choose_34 : decode cL_choose 34 = .ok (.iaload, 1) := by decide +kernel
theorem dL_choose_35 : decode cL_choose 35 = .ok (.if_icmp .ge 63, 3) := by decide +kernel
theorem dL_choose_38 : decode cL_choose 38 = .ok (.iload_n 1, 1) := by decide +kernel
theorem dL_choose_39 : decode cL_choose 39 = .ok (.bipush 11, 2) := by decide +kernel
theorem dL_choose_41 : decode cL_choose 41 = .ok (.iload 5, 2) := by decide +kernel
theorem dL_choose_43 : decode cL_choose 43 = .ok (.iadd, 1) := by decide +kernel
theorem dL_choose_44 : decode cL_choose 44 = .ok (.ishr, 1) := by decide +kernel
theorem dL_choose_45 : decode cL_choose 45 = .ok (.iconst 3, 1) := by decide +kernel
theorem dL_choose_46 : decode cL_choose 46 = .ok (.invokestatic 15, 3) := by decide +kernel
theorem dL_choose_49 : decode cL_choose 49 = .ok (.ifCond .le 49, 3) := by decide +kernel
theorem dL_choose_52 : decode cL_choose 52 = .ok (.iload 6, 2) := by decide +kernel
theorem dL_choose_54 : decode cL_choose 54 = .ok (.aload_n 2, 1) := by decide +kernel
theorem dL_choose_55 : decode cL_choose 55 = .ok (.iconst 1, 1) := by decide +kernel
theorem dL_choose_56 : decode cL_choose 56 = .ok (.iaload, 1) := by decide +kernel
theorem dL_choose_57 : decode cL_choose 57 = .ok (.if_icmp .eq 25, 3) := by decide +kernel
theorem dL_choose_60 : decode cL_choose 60 = .ok (.aload_n 2, 1) := by decide +kernel
theorem dL_choose_61 : decode cL_choose 61 = .ok (.bipush 12, 2) := by decide +kernel
theorem dL_choose_63 : decode cL_choose 63 = .ok (.iload 6, 2) := by decide +kernel
theorem dL_choose_65 : decode cL_choose 65 = .ok (.iadd, 1) := by decide +kernel
theorem dL_choose_66 : decode cL_choose 66 = .ok (.iaload, 1) := by decide +kernel
theorem dL_choose_67 : decode cL_choose 67 = .ok (.iload 5, 2) := by decide +kernel
theorem dL_choose_69 : decode cL_choose 69 = .ok (.if_icmp .ne 13, 3) := by decide +kernel
theorem dL_choose_72 : decode cL_choose 72 = .ok (.aload_n 2, 1) := by decide +kernel
theorem dL_choose_73 : decode cL_choose 73 = .ok (.aload_n 3, 1) := by decide +kernel
theorem dL_choose_74 : decode cL_choose 74 = .ok (.iload 6, 2) := by decide +kernel
theorem dL_choose_76 : decode cL_choose 76 = .ok (.invokestatic 39, 3) := by decide +kernel
theorem dL_choose_79 : decode cL_choose 79 = .ok (.ifCond .ne 19, 3) := by decide +kernel
theorem dL_choose_82 : decode cL_choose 82 = .ok (.iload 6, 2) := by decide +kernel
theorem dL_choose_84 : decode cL_choose 84 = .ok (.iconst 1, 1) := by decide +kernel
theorem dL_choose_85 : decode cL_choose 85 = .ok (.iadd, 1) := by decide +kernel
theorem dL_choose_86 : decode cL_choose 86 = .ok (.aload_n 2, 1) := by decide +kernel
theorem dL_choose_87 : decode cL_choose 87 = .ok (.iconst 1, 1) := by decide +kernel
theorem dL_choose_88 : decode cL_choose 88 = .ok (.iaload, 1) := by decide +kernel
theorem dL_choose_89 : decode cL_choose 89 = .ok (.irem, 1) := by decide +kernel
theorem dL_choose_90 : decode cL_choose 90 = .ok (.istore 6, 2) := by decide +kernel
theorem dL_choose_92 : decode cL_choose 92 = .ok (.iinc 7 1, 3) := by decide +kernel
theorem dL_choose_95 : decode cL_choose 95 = .ok (.goto (-65), 3) := by decide +kernel
theorem dL_choose_98 : decode cL_choose 98 = .ok (.iload 6, 2) := by decide +kernel
theorem dL_choose_100 : decode cL_choose 100 = .ok (.aload_n 2, 1) := by decide +kernel
theorem dL_choose_101 : decode cL_choose 101 = .ok (.iconst 1, 1) := by decide +kernel
theorem dL_choose_102 : decode cL_choose 102 = .ok (.iaload, 1) := by decide +kernel
theorem dL_choose_103 : decode cL_choose 103 = .ok (.if_icmp .ne 7, 3) := by decide +kernel
theorem dL_choose_106 : decode cL_choose 106 = .ok (.bipush (-9), 2) := by decide +kernel
theorem dL_choose_108 : decode cL_choose 108 = .ok (.istore 6, 2) := by decide +kernel
theorem dL_choose_110 : decode cL_choose 110 = .ok (.iload 6, 2) := by decide +kernel
theorem dL_choose_112 : decode cL_choose 112 = .ok (.ifCond .lt 25, 3) := by decide +kernel
theorem dL_choose_115 : decode cL_choose 115 = .ok (.aload_n 2, 1) := by decide +kernel
theorem dL_choose_116 : decode cL_choose 116 = .ok (.bipush 12, 2) := by decide +kernel
theorem dL_choose_118 : decode cL_choose 118 = .ok (.iload 6, 2) := by decide +kernel
theorem dL_choose_120 : decode cL_choose 120 = .ok (.iadd, 1) := by decide +kernel
theorem dL_choose_121 : decode cL_choose 121 = .ok (.iaload, 1) := by decide +kernel
theorem dL_choose_122 : decode cL_choose 122 = .ok (.iload 5, 2) := by decide +kernel
theorem dL_choose_124 : decode cL_choose 124 = .ok (.if_icmp .ne 17, 3) := by decide +kernel
theorem dL_choose_127 : decode cL_choose 127 = .ok (.aload_n 2, 1) := by decide +kernel
theorem dL_choose_128 : decode cL_choose 128 = .ok (.aload_n 3, 1) := by decide +kernel
theorem dL_choose_129 : decode cL_choose 129 = .ok (.iload 6, 2) := by decide +kernel
theorem dL_choose_131 : decode cL_choose 131 = .ok (.invokestatic 39, 3) := by decide +kernel
theorem dL_choose_134 : decode cL_choose 134 = .ok (.ifCond .eq 7, 3) := by decide +kernel
theorem dL_choose_137 : decode cL_choose 137 = .ok (.iconst 1, 1) := by decide +kernel
theorem dL_choose_138 : decode cL_choose 138 = .ok (.goto 4, 3) := by decide +kernel
theorem dL_choose_141 : decode cL_choose 141 = .ok (.iconst 0, 1) := by decide +kernel
theorem dL_choose_142 : decode cL_choose 142 = .ok (.istore 7, 2) := by decide +kernel
theorem dL_choose_144 : decode cL_choose 144 = .ok (.aload_n 0, 1) := by decide +kernel
theorem dL_choose_145 : decode cL_choose 145 = .ok (.iload 5, 2) := by decide +kernel
theorem dL_choose_147 : decode cL_choose 147 = .ok (.iload 6, 2) := by decide +kernel
theorem dL_choose_149 : decode cL_choose 149 = .ok (.invokevirtual 43, 3) := by decide +kernel
theorem dL_choose_152 : decode cL_choose 152 = .ok (.iload 7, 2) := by decide +kernel
theorem dL_choose_154 : decode cL_choose 154 = .ok (.ifCond .eq 11, 3) := by decide +kernel
theorem dL_choose_157 : decode cL_choose 157 = .ok (.aload 4, 2) := by decide +kernel
theorem dL_choose_159 : decode cL_choose 159 = .ok (.iload 5, 2) := by decide +kernel
theorem dL_choose_161 : decode cL_choose 161 = .ok (.iaload, 1) := by decide +kernel
theorem dL_choose_162 : decode cL_choose 162 = .ok (.goto 5, 3) := by decide +kernel
theorem dL_choose_165 : decode cL_choose 165 = .ok (.bipush (-3), 2) := by decide +kernel
theorem dL_choose_167 : decode cL_choose 167 = .ok (.if_icmp .eq 5, 3) := by decide +kernel
theorem dL_choose_170 : decode cL_choose 170 = .ok (.iconst 0, 1) := by decide +kernel
theorem dL_choose_171 : decode cL_choose 171 = .ok (.ireturn, 1) := by decide +kernel
theorem dL_choose_172 : decode cL_choose 172 = .ok (.aload 4, 2) := by decide +kernel
theorem dL_choose_174 : decode cL_choose 174 = .ok (.iload 5, 2) := by decide +kernel
theorem dL_choose_176 : decode cL_choose 176 = .ok (.iload 7, 2) := by decide +kernel
theorem dL_choose_178 : decode cL_choose 178 = .ok (.ifCond .eq 8, 3) := by decide +kernel
theorem dL_choose_181 : decode cL_choose 181 = .ok (.iload 6, 2) := by decide +kernel
theorem dL_choose_183 : decode cL_choose 183 = .ok (.goto 8, 3) := by decide +kernel
theorem dL_choose_186 : decode cL_choose 186 = .ok (.aload 4, 2) := by decide +kernel
theorem dL_choose_188 : decode cL_choose 188 = .ok (.iload 5, 2) := by decide +kernel
theorem dL_choose_190 : decode cL_choose 190 = .ok (.iaload, 1) := by decide +kernel
theorem dL_choose_191 : decode cL_choose 191 = .ok (.iastore, 1) := by decide +kernel
theorem dL_choose_192 : decode cL_choose 192 = .ok (.iinc 5 1, 3) := by decide +kernel
theorem dL_choose_195 : decode cL_choose 195 = .ok (.goto (-192), 3) := by decide +kernel
theorem dL_choose_198 : decode cL_choose 198 = .ok (.iconst 1, 1) := by decide +kernel
theorem dL_choose_199 : decode cL_choose 199 = .ok (.ireturn, 1) := by decide +kernel
theorem dL_law_0 : decode cL_law 0 = .ok (.new 20, 3) := by decide +kernel
theorem dL_law_3 : decode cL_law 3 = .ok (.dup, 1) := by decide +kernel
theorem dL_law_4 : decode cL_law 4 = .ok (.invokespecial 46, 3) := by decide +kernel
theorem dL_law_7 : decode cL_law 7 = .ok (.astore_n 1, 1) := by decide +kernel
theorem dL_law_8 : decode cL_law 8 = .ok (.bipush 34, 2) := by decide +kernel
theorem dL_law_10 : decode cL_law 10 = .ok (.newarray .int, 2) := by decide +kernel
theorem dL_law_12 : decode cL_law 12 = .ok (.astore_n 2, 1) := by decide +kernel
theorem dL_law_13 : decode cL_law 13 = .ok (.bipush 60, 2) := by decide +kernel
theorem dL_law_15 : decode cL_law 15 = .ok (.newarray .int, 2) := by decide +kernel
theorem dL_law_17 : decode cL_law 17 = .ok (.astore_n 3, 1) := by decide +kernel
theorem dL_law_18 : decode cL_law 18 = .ok (.iconst 5, 1) := by decide +kernel
theorem dL_law_19 : decode cL_law 19 = .ok (.newarray .int, 2) := by decide +kernel
theorem dL_law_21 : decode cL_law 21 = .ok (.astore 4, 2) := by decide +kernel
theorem dL_law_23 : decode cL_law 23 = .ok (.aload_n 1, 1) := by decide +kernel
theorem dL_law_24 : decode cL_law 24 = .ok (.aload_n 0, 1) := by decide +kernel
theorem dL_law_25 : decode cL_law 25 = .ok (.iconst 0, 1) := by decide +kernel
theorem dL_law_26 : decode cL_law 26 = .ok (.bipush 10, 2) := by decide +kernel
theorem dL_law_28 : decode cL_law 28 = .ok (.aload_n 2, 1) := by decide +kernel
theorem dL_law_29 : decode cL_law 29 = .ok (.invokestatic 47, 3) := by decide +kernel
theorem dL_law_32 : decode cL_law 32 = .ok (.istore 5, 2) := by decide +kernel
theorem dL_law_34 : decode cL_law 34 = .ok (.iload 5, 2) := by decide +kernel
theorem dL_law_36 : decode cL_law 36 = .ok (.bipush 7, 2) := by decide +kernel
theorem dL_law_38 : decode cL_law 38 = .ok (.if_icmp .lt 18, 3) := by decide +kernel
theorem dL_law_41 : decode cL_law 41 = .ok (.aload_n 1, 1) := by decide +kernel
theorem dL_law_42 : decode cL_law 42 = .ok (.iconst 0, 1) := by decide +kernel
theorem dL_law_43 : decode cL_law 43 = .ok (.iconst 0, 1) := by decide +kernel
theorem dL_law_44 : decode cL_law 44 = .ok (.iconst 0, 1) := by decide +kernel
theorem dL_law_45 : decode cL_law 45 = .ok (.iload 5, 2) := by decide +kernel
theorem dL_law_47 : decode cL_law 47 = .ok (.invokevirtual 50, 3) := by decide +kernel
theorem dL_law_50 : decode cL_law 50 = .ok (.aload_n 2, 1) := by decide +kernel
theorem dL_law_51 : decode cL_law 51 = .ok (.iconst 1, 1) := by decide +kernel
theorem dL_law_52 : decode cL_law 52 = .ok (.iaload, 1) := by decide +kernel
theorem dL_law_53 : decode cL_law 53 = .ok (.if_icmp .eq 5, 3) := by decide +kernel
theorem dL_law_56 : decode cL_law 56 = .ok (.iconst 0, 1) := by decide +kernel
theorem dL_law_57 : decode cL_law 57 = .ok (.ireturn, 1) := by decide +kernel
theorem dL_law_58 : decode cL_law 58 = .ok (.iconst 0, 1) := by decide +kernel
theorem dL_law_59 : decode cL_law 59 = .ok (.istore 6, 2) := by decide +kernel
theorem dL_law_61 : decode cL_law 61 = .ok (.iload 6, 2) := by decide +kernel
theorem dL_law_63 : decode cL_law 63 = .ok (.iconst 5, 1) := by decide +kernel
theorem dL_law_64 : decode cL_law 64 = .ok (.if_icmp .ge 16, 3) := by decide +kernel
theorem dL_law_67 : decode cL_law 67 = .ok (.aload 4, 2) := by decide +kernel
theorem dL_law_69 : decode cL_law 69 = .ok (.iload 6, 2) := by decide +kernel
theorem dL_law_71 : decode cL_law 71 = .ok (.bipush (-9), 2) := by decide +kernel
theorem dL_law_73 : decode cL_law 73 = .ok (.iastore, 1) := by decide +kernel
theorem dL_law_74 : decode cL_law 74 = .ok (.iinc 6 1, 3) := by decide +kernel
theorem dL_law_77 : decode cL_law 77 = .ok (.goto (-16), 3) := by decide +kernel
theorem dL_law_80 : decode cL_law 80 = .ok (.iconst 0, 1) := by decide +kernel
theorem dL_law_81 : decode cL_law 81 = .ok (.istore 6, 2) := by decide +kernel
theorem dL_law_83 : decode cL_law 83 = .ok (.iload 6, 2) := by decide +kernel
theorem dL_law_85 : decode cL_law 85 = .ok (.bipush 11, 2) := by decide +kernel
theorem dL_law_87 : decode cL_law 87 = .ok (.if_icmp .ge 1199, 3) := by decide +kernel
theorem dL_law_90 : decode cL_law 90 = .ok (.aload_n 0, 1) := by decide +kernel
theorem dL_law_91 : decode cL_law 91 = .ok (.iconst 5, 1) := by decide +kernel
theorem dL_law_92 : decode cL_law 92 = .ok (.iload 6, 2) := by decide +kernel
theorem dL_law_94 : decode cL_law 94 = .ok (.bipush 7, 2) := by decide +kernel
theorem dL_law_96 : decode cL_law 96 = .ok (.irem, 1) := by decide +kernel
theorem dL_law_97 : decode cL_law 97 = .ok (.iadd, 1) := by decide +kernel
theorem dL_law_98 : decode cL_law 98 = .ok (.invokestatic 9, 3) := by decide +kernel
theorem dL_law_101 : decode cL_law 101 = .ok (.iload 6, 2) := by decide +kernel
theorem dL_law_103 : decode cL_law 103 = .ok (.bipush 7, 2) := by decide +kernel
theorem dL_law_105 : decode cL_law 105 = .ok (.idiv, 1) := by decide +kernel
theorem dL_law_106 : decode cL_law 106 = .ok (.iconst 3, 1) := by decide +kernel
theorem dL_law_107 : decode cL_law 107 = .ok (.imul, 1) := by decide +kernel
theorem dL_law_108 : decode cL_law 108 = .ok (.ishr, 1) := by decide +kernel
theorem dL_law_109 : decode cL_law 109 = .ok (.istore 7, 2) := by decide +kernel
theorem dL_law_111 : decode cL_law 111 = .ok (.iload 7, 2) := by decide +kernel
theorem dL_law_113 : decode cL_law 113 = .ok (.bipush 9, 2) := by decide +kernel
theorem dL_law_115 : decode cL_law 115 = .ok (.ishr, 1) := by decide +kernel
theorem dL_law_116 : decode cL_law 116 = .ok (.iconst 3, 1) := by decide +kernel
theorem dL_law_117 : decode cL_law 117 = .ok (.invokestatic 15, 3) := by decide +kernel
theorem dL_law_120 : decode cL_law 120 = .ok (.ifCond .ne 52, 3) := by decide +kernel
theorem dL_law_123 : decode cL_law 123 = .ok (.iload 7, 2) := by decide +kernel
theorem dL_law_125 : decode cL_law 125 = .ok (.bipush 11, 2) := by decide +kernel
theorem dL_law_127 : decode cL_law 127 = .ok (.ishr, 1) := by decide +kernel
theorem dL_law_128 : decode cL_law 128 = .ok (.iconst 4, 1) := by decide +kernel
theorem dL_law_129 : decode cL_law 129 = .ok (.invokestatic 15, 3) := by decide +kernel
theorem dL_law_132 : decode cL_law 132 = .ok (.ifCond .ne 8, 3) := by decide +kernel
theorem dL_law_135 : decode cL_law 135 = .ok (.bipush 99, 2) := by decide +kernel
theorem dL_law_137 : decode cL_law 137 = .ok (.goto 12, 3) := by decide +kernel
theorem dL_law_140 : decode cL_law 140 = .ok (.iload 7, 2) := by decide +kernel
theorem dL_law_142 : decode cL_law 142 = .ok (.bipush 11, 2) := by decide +kernel
theorem dL_law_144 : decode cL_law 144 = .ok (.ishr, 1) := by decide +kernel
theorem dL_law_145 : decode cL_law 145 = .ok (.iconst 5, 1) := by decide +kernel
theorem dL_law_146 : decode cL_law 146 = .ok (.invokestatic 15, 3) := by decide +kernel
theorem dL_law_149 : decode cL_law 149 = .ok (.istore 8, 2) := by decide +kernel
theorem dL_law_151 : decode cL_law 151 = .ok (.aload_n 1, 1) := by decide +kernel
theorem dL_law_152 : decode cL_law 152 = .ok (.iload 8, 2) := by decide +kernel
theorem dL_law_154 : decode cL_law 154 = .ok (.invokevirtual 54, 3) := by decide +kernel
theorem dL_law_157 : decode cL_law 157 = .ok (.aload_n 2, 1) := by decide +kernel
theorem dL_law_158 : decode cL_law 158 = .ok (.bipush 32, 2) := by decide +kernel
theorem dL_law_160 : decode cL_law 160 = .ok (.iaload, 1) := by decide +kernel
theorem dL_law_161 : decode cL_law 161 = .ok (.if_icmp .eq 5, 3) := by decide +kernel
theorem dL_law_164 : decode cL_law 164 = .ok (.iconst 0, 1) := by decide +kernel
theorem dL_law_165 : decode cL_law 165 = .ok (.ireturn, 1) := by decide +kernel
theorem dL_law_166 : decode cL_law 166 = .ok (.aload_n 2, 1) := by decide +kernel
theorem dL_law_167 : decode cL_law 167 = .ok (.bipush 32, 2) := by decide +kernel
theorem dL_law_169 : decode cL_law 169 = .ok (.iload 8, 2) := by decide +kernel
theorem dL_law_171 : decode cL_law 171 = .ok (.iastore, 1) := by decide +kernel
theorem dL_law_172 : decode cL_law 172 = .ok (.aload_n 1, 1) := by decide +kernel
theorem dL_law_173 : decode cL_law 173 = .ok (.aload_n 0, 1) := by decide +kernel
theorem dL_law_174 : decode cL_law 174 = .ok (.bipush 12, 2) := by decide +kernel
theorem dL_law_176 : decode cL_law 176 = .ok (.iload 6, 2) := by decide +kernel
theorem dL_law_178 : decode cL_law 178 = .ok (.bipush 6, 2) := by decide +kernel
theorem dL_law_180 : decode cL_law 180 = .ok (.irem, 1) := by decide +kernel
theorem dL_law_181 : decode cL_law 181 = .ok (.iadd, 1) := by decide +kernel
theorem dL_law_182 : decode cL_law 182 = .ok (.invokestatic 9, 3) := by decide +kernel
theorem dL_law_185 : decode cL_law 185 = .ok (.iload 6, 2) := by decide +kernel
theorem dL_law_187 : decode cL_law 187 = .ok (.bipush 6, 2) := by decide +kernel
theorem dL_law_189 : decode cL_law 189 = .ok (.idiv, 1) := by decide +kernel
theorem dL_law_190 : decode cL_law 190 = .ok (.iconst 4, 1) := by decide +kernel
theorem dL_law_191 : decode cL_law 191 = .ok (.imul, 1) := by decide +kernel
theorem dL_law_192 : decode cL_law 192 = .ok (.ishr, 1) := by decide +kernel
theorem dL_law_193 : decode cL_law 193 = .ok (.aload_n 2, 1) := by decide +kernel
theorem dL_law_194 : decode cL_law 194 = .ok (.aload_n 3, 1) := by decide +kernel
theorem dL_law_195 : decode cL_law 195 = .ok (.aload 4, 2) := by decide +kernel
theorem dL_law_197 : decode cL_law 197 = .ok (.invokestatic 58, 3) := by decide +kernel
theorem dL_law_200 : decode cL_law 200 = .ok (.ifCond .ne 5, 3) := by decide +kernel
theorem dL_law_203 : decode cL_law 203 = .ok (.iconst 0, 1) := by decide +kernel
theorem dL_law_204 : decode cL_law 204 = .ok (.ireturn, 1) := by decide +kernel
theorem dL_law_205 : decode cL_law 205 = .ok (.iconst 0, 1) := by decide +kernel
theorem dL_law_206 : decode cL_law 206 = .ok (.istore 8, 2) := by decide +kernel
theorem dL_law_208 : decode cL_law 208 = .ok (.iload 8, 2) := by decide +kernel
theorem dL_law_210 : decode cL_law 210 = .ok (.aload_n 2, 1) := by decide +kernel
theorem dL_law_211 : decode cL_law 211 = .ok (.iconst 1, 1) := by decide +kernel
theorem dL_law_212 : decode cL_law 212 = .ok (.iaload, 1) := by decide +kernel
theorem dL_law_213 : decode cL_law 213 = .ok (.if_icmp .ge 98, 3) := by decide +kernel
theorem dL_law_216 : decode cL_law 216 = .ok (.aload_n 1, 1) := by decide +kernel
theorem dL_law_217 : decode cL_law 217 = .ok (.iload 8, 2) := by decide +kernel
theorem dL_law_219 : decode cL_law 219 = .ok (.iconst 3, 1) := by decide +kernel
theorem dL_law_220 : decode cL_law 220 = .ok (.invokevirtual 61, 3) := by decide +kernel
theorem dL_law_223 : decode cL_law 223 = .ok (.aload_n 3, 1) := by decide +kernel
theorem dL_law_224 : decode cL_law 224 = .ok (.aload_n 2, 1) := by decide +kernel
theorem dL_law_225 : decode cL_law 225 = .ok (.bipush 33, 2) := by decide +kernel
theorem dL_law_227 : decode cL_law 227 = .ok (.iaload, 1) := by decide +kernel
theorem dL_law_228 : decode cL_law 228 = .ok (.iload 8, 2) := by decide +kernel
theorem dL_law_230 : decode cL_law 230 = .ok (.invokestatic 32, 3) := by decide +kernel
theorem dL_law_233 : decode cL_law 233 = .ok (.if_icmp .ne 70, 3) := by decide +kernel
theorem dL_law_236 : decode cL_law 236 = .ok (.aload_n 1, 1) := by decide +kernel
theorem dL_law_237 : decode cL_law 237 = .ok (.iload 8, 2) := by decide +kernel
theorem dL_law_239 : decode cL_law 239 = .ok (.iconst 4, 1) := by decide +kernel
theorem dL_law_240 : decode cL_law 240 = .ok (.invokevirtual 61, 3) := by decide +kernel
theorem dL_law_243 : decode cL_law 243 = .ok (.aload_n 3, 1) := by decide +kernel
theorem dL_law_244 : decode cL_law 244 = .ok (.aload_n 2, 1) := by decide +kernel
theorem dL_law_245 : decode cL_law 245 = .ok (.bipush 33, 2) := by decide +kernel
theorem dL_law_247 : decode cL_law 247 = .ok (.iaload, 1) := by decide +kernel
theorem dL_law_248 : decode cL_law 248 = .ok (.iload 8, 2) := by decide +kernel
theorem dL_law_250 : decode cL_law 250 = .ok (.invokestatic 28, 3) := by decide +kernel
theorem dL_law_253 : decode cL_law 253 = .ok (.if_icmp .ne 50, 3) := by decide +kernel
theorem dL_law_256 : decode cL_law 256 = .ok (.aload_n 1, 1) := by decide +kernel
theorem dL_law_257 : decode cL_law 257 = .ok (.iload 8, 2) := by decide +kernel
theorem dL_law_259 : decode cL_law 259 = .ok (.iconst 5, 1) := by decide +kernel
theorem dL_law_260 : decode cL_law 260 = .ok (.invokevirtual 61, 3) := by decide +kernel
theorem dL_law_263 : decode cL_law 263 = .ok (.aload_n 2, 1) := by decide +kernel
theorem dL_law_264 : decode cL_law 264 = .ok (.aload_n 3, 1) := by decide +kernel
theorem dL_law_265 : decode cL_law 265 = .ok (.iload 8, 2) := by decide +kernel
theorem dL_law_267 : decode cL_law 267 = .ok (.invokestatic 39, 3) := by decide +kernel
theorem dL_law_270 : decode cL_law 270 = .ok (.ifCond .eq 7, 3) := by decide +kernel
theorem dL_law_273 : decode cL_law 273 = .ok (.iconst 1, 1) := by decide +kernel
theorem dL_law_274 : decode cL_law 274 = .ok (.goto 4, 3) := by decide +kernel
theorem dL_law_277 : decode cL_law 277 = .ok (.iconst 0, 1) := by decide +kernel
theorem dL_law_278 : decode cL_law 278 = .ok (.if_icmp .ne 25, 3) := by decide +kernel
theorem dL_law_281 : decode cL_law 281 = .ok (.aload_n 1, 1) := by decide +kernel
theorem dL_law_282 : decode cL_law 282 = .ok (.iload 8, 2) := by decide +kernel
theorem dL_law_284 : decode cL_law 284 = .ok (.bipush 6, 2) := by decide +kernel
theorem dL_law_286 : decode cL_law 286 = .ok (.invokevirtual 61, 3) := by decide +kernel
theorem dL_law_289 : decode cL_law 289 = .ok (.aload_n 2, 1) := by decide +kernel
theorem dL_law_290 : decode cL_law 290 = .ok (.aload_n 3, 1) := by decide +kernel
theorem dL_law_291 : decode cL_law 291 = .ok (.aload_n 2, 1) := by decide +kernel
theorem dL_law_292 : decode cL_law 292 = .ok (.bipush 33, 2) := by decide +kernel
theorem dL_law_294 : decode cL_law 294 = .ok (.iaload, 1) := by decide +kernel
theorem dL_law_295 : decode cL_law 295 = .ok (.iload 8, 2) := by decide +kernel
theorem dL_law_297 : decode cL_law 297 = .ok (.invokestatic 35, 3) := by decide +kernel
theorem dL_law_300 : decode cL_law 300 = .ok (.if_icmp .eq 5, 3) := by decide +kernel
theorem dL_law_303 : decode cL_law 303 = .ok (.iconst 0, 1) := by decide +kernel
theorem dL_law_304 : decode cL_law 304 = .ok (.ireturn, 1) := by decide +kernel
theorem dL_law_305 : decode cL_law 305 = .ok (.iinc 8 1, 3) := by decide +kernel
theorem dL_law_308 : decode cL_law 308 = .ok (.goto (-100), 3) := by decide +kernel
theorem dL_law_311 : decode cL_law 311 = .ok (.iconst 5, 1) := by decide +kernel
theorem dL_law_312 : decode cL_law 312 = .ok (.newarray .int, 2) := by decide +kernel
theorem dL_law_314 : decode cL_law 314 = .ok (.astore 8, 2) := by decide +kernel
theorem dL_law_316 : decode cL_law 316 = .ok (.iconst 0, 1) := by decide +kernel
theorem dL_law_317 : decode cL_law 317 = .ok (.istore 9, 2) := by decide +kernel
theorem dL_law_319 : decode cL_law 319 = .ok (.iload 9, 2) := by decide +kernel
theorem dL_law_321 : decode cL_law 321 = .ok (.aload_n 2, 1) := by decide +kernel
theorem dL_law_322 : decode cL_law 322 = .ok (.iconst 0, 1) := by decide +kernel
theorem dL_law_323 : decode cL_law 323 = .ok (.iaload, 1) := by decide +kernel
theorem dL_law_324 : decode cL_law 324 = .ok (.if_icmp .ge 467, 3) := by decide +kernel
theorem dL_law_327 : decode cL_law 327 = .ok (.iconst 0, 1) := by decide +kernel
theorem dL_law_328 : decode cL_law 328 = .ok (.istore 10, 2) := by decide +kernel
theorem dL_law_330 : decode cL_law 330 = .ok (.iload 10, 2) := by decide +kernel
theorem dL_law_332 : decode cL_law 332 = .ok (.iconst 5, 1) := by decide +kernel
theorem dL_law_333 : decode cL_law 333 = .ok (.if_icmp .ge 19, 3) := by decide +kernel
theorem dL_law_336 : decode cL_law 336 = .ok (.aload 8, 2) := by decide +kernel
theorem dL_law_338 : decode cL_law 338 = .ok (.iload 10, 2) := by decide +kernel
theorem dL_law_340 : decode cL_law 340 = .ok (.aload 4, 2) := by decide +kernel
theorem dL_law_342 : decode cL_law 342 = .ok (.iload 10, 2) := by decide +kernel
theorem dL_law_344 : decode cL_law 344 = .ok (.iaload, 1) := by decide +kernel
theorem dL_law_345 : decode cL_law 345 = .ok (.iastore, 1) := by decide +kernel
theorem dL_law_346 : decode cL_law 346 = .ok (.iinc 10 1, 3) := by decide +kernel
theorem dL_law_349 : decode cL_law 349 = .ok (.goto (-19), 3) := by decide +kernel
theorem dL_law_352 : decode cL_law 352 = .ok (.iconst 1, 1) := by decide +kernel
theorem dL_law_353 : decode cL_law 353 = .ok (.istore 10, 2) := by decide +kernel
theorem dL_law_355 : decode cL_law 355 = .ok (.iconst 0, 1) := by decide +kernel
theorem dL_law_356 : decode cL_law 356 = .ok (.istore 11, 2) := by decide +kernel
theorem dL_law_358 : decode cL_law 358 = .ok (.iload 11, 2) := by decide +kernel
theorem dL_law_360 : decode cL_law 360 = .ok (.aload_n 2, 1) := by decide +kernel
theorem dL_law_361 : decode cL_law 361 = .ok (.iconst 0, 1) := by decide +kernel
theorem dL_law_362 : decode cL_law 362 = .ok (.iaload, 1) := by decide +kernel
theorem dL_law_363 : decode cL_law 363 = .ok (.if_icmp .ge 73, 3) := by decide +kernel
theorem dL_law_366 : decode cL_law 366 = .ok (.iload 11, 2) := by decide +kernel
theorem dL_law_368 : decode cL_law 368 = .ok (.iload 9, 2) := by decide +kernel
theorem dL_law_370 : decode cL_law 370 = .ok (.if_icmp .eq 11, 3) := by decide +kernel
theorem dL_law_373 : decode cL_law 373 = .ok (.aload 4, 2) := by decide +kernel
theorem dL_law_375 : decode cL_law 375 = .ok (.iload 11, 2) := by decide +kernel
theorem dL_law_377 : decode cL_law 377 = .ok (.iaload, 1) := by decide +kernel
theorem dL_law_378 : decode cL_law 378 = .ok (.ifCond .ge 7, 3) := by decide +kernel
theorem dL_law_381 : decode cL_law 381 = .ok (.iconst 0, 1) := by decide +kernel
theorem dL_law_382 : decode cL_law 382 = .ok (.goto 30, 3) := by decide +kernel
theorem dL_law_385 : decode cL_law 385 = .ok (.aload_n 2, 1) := by decide +kernel
theorem dL_law_386 : decode cL_law 386 = .ok (.aload_n 3, 1) := by decide +kernel
theorem dL_law_387 : decode cL_law 387 = .ok (.aload_n 2, 1) := by decide +kernel
theorem dL_law_388 : decode cL_law 388 = .ok (.bipush 33, 2) := by decide +kernel
theorem dL_law_390 : decode cL_law 390 = .ok (.iaload, 1) := by decide +kernel
theorem dL_law_391 : decode cL_law 391 = .ok (.aload 4, 2) := by decide +kernel
theorem dL_law_393 : decode cL_law 393 = .ok (.iload 11, 2) := by decide +kernel
theorem dL_law_395 : decode cL_law 395 = .ok (.iaload, 1) := by decide +kernel
theorem dL_law_396 : decode cL_law 396 = .ok (.invokestatic 35, 3) := by decide +kernel
theorem dL_law_399 : decode cL_law 399 = .ok (.iload 11, 2) := by decide +kernel
theorem dL_law_401 : decode cL_law 401 = .ok (.iload 9, 2) := by decide +kernel
theorem dL_law_403 : decode cL_law 403 = .ok (.if_icmp .ge 7, 3) := by decide +kernel
theorem dL_law_406 : decode cL_law 406 = .ok (.iconst 1, 1) := by decide +kernel
theorem dL_law_407 : decode cL_law 407 = .ok (.goto 4, 3) := by decide +kernel
theorem dL_law_410 : decode cL_law 410 = .ok (.iconst 0, 1) := by decide +kernel
theorem dL_law_411 : decode cL_law 411 = .ok (.iadd, 1) := by decide +kernel
theorem dL_law_412 : decode cL_law 412 = .ok (.istore 12, 2) := by decide +kernel
theorem dL_law_414 : decode cL_law 414 = .ok (.iload 12, 2) := by decide +kernel
theorem dL_law_416 : decode cL_law 416 = .ok (.iload 10, 2) := by decide +kernel
theorem dL_law_418 : decode cL_law 418 = .ok (.if_icmp .le 8, 3) := by decide +kernel
theorem dL_law_421 : decode cL_law 421 = .ok (.iload 12, 2) := by decide +kernel
theorem dL_law_423 : decode cL_law 423 = .ok (.goto 5, 3) := by decide +kernel
theorem dL_law_426 : decode cL_law 426 = .ok (.iload 10, 2) := by decide +kernel
theorem dL_law_428 : decode cL_law 428 = .ok (.istore 10, 2) := by decide +kernel
theorem dL_law_430 : decode cL_law 430 = .ok (.iinc 11 1, 3) := by decide +kernel
theorem dL_law_433 : decode cL_law 433 = .ok (.goto (-75), 3) := by decide +kernel
theorem dL_law_436 : decode cL_law 436 = .ok (.aload_n 1, 1) := by decide +kernel
theorem dL_law_437 : decode cL_law 437 = .ok (.iload 9, 2) := by decide +kernel
theorem dL_law_439 : decode cL_law 439 = .ok (.iconst 0, 1) := by decide +kernel
theorem dL_law_440 : decode cL_law 440 = .ok (.invokevirtual 64, 3) := by decide +kernel
theorem dL_law_443 : decode cL_law 443 = .ok (.aload 4, 2) := by decide +kernel
theorem dL_law_445 : decode cL_law 445 = .ok (.iload 9, 2) := by decide +kernel
theorem dL_law_447 : decode cL_law 447 = .ok (.iaload, 1) := by decide +kernel
theorem dL_law_448 : decode cL_law 448 = .ok (.if_icmp .ne 39, 3) := by decide +kernel
theorem dL_law_451 : decode cL_law 451 = .ok (.aload_n 1, 1) := by decide +kernel
theorem dL_law_452 : decode cL_law 452 = .ok (.iload 9, 2) := by decide +kernel
theorem dL_law_454 : decode cL_law 454 = .ok (.iconst 1, 1) := by decide +kernel
theorem dL_law_455 : decode cL_law 455 = .ok (.invokevirtual 64, 3) := by decide +kernel
theorem dL_law_458 : decode cL_law 458 = .ok (.aload_n 2, 1) := by decide +kernel
theorem dL_law_459 : decode cL_law 459 = .ok (.aload_n 3, 1) := by decide +kernel
theorem dL_law_460 : decode cL_law 460 = .ok (.aload_n 2, 1) := by decide +kernel
theorem dL_law_461 : decode cL_law 461 = .ok (.bipush 33, 2) := by decide +kernel
theorem dL_law_463 : decode cL_law 463 = .ok (.iaload, 1) := by decide +kernel
theorem dL_law_464 : decode cL_law 464 = .ok (.aload 4, 2) := by decide +kernel
theorem dL_law_466 : decode cL_law 466 = .ok (.iconst 0, 1) := by decide +kernel
theorem dL_law_467 : decode cL_law 467 = .ok (.iload 9, 2) := by decide +kernel
theorem dL_law_469 : decode cL_law 469 = .ok (.invokestatic 67, 3) := by decide +kernel
theorem dL_law_472 : decode cL_law 472 = .ok (.if_icmp .ne 15, 3) := by decide +kernel
theorem dL_law_475 : decode cL_law 475 = .ok (.aload_n 1, 1) := by decide +kernel
theorem dL_law_476 : decode cL_law 476 = .ok (.iload 9, 2) := by decide +kernel
theorem dL_law_478 : decode cL_law 478 = .ok (.iconst 2, 1) := by decide +kernel
theorem dL_law_479 : decode cL_law 479 = .ok (.invokevirtual 64, 3) := by decide +kernel
theorem dL_law_482 : decode cL_law 482 = .ok (.iload 10, 2) := by decide +kernel
theorem dL_law_484 : decode cL_law 484 = .ok (.if_icmp .eq 5, 3) := by decide +kernel
theorem dL_law_487 : decode cL_law 487 = .ok (.iconst 0, 1) := by decide +kernel
theorem dL_law_488 : decode cL_law 488 = .ok (.ireturn, 1) := by decide +kernel
theorem dL_law_489 : decode cL_law 489 = .ok (.bipush (-9), 2) := by decide +kernel
theorem dL_law_491 : decode cL_law 491 = .ok (.istore 11, 2) := by decide +kernel
theorem dL_law_493 : decode cL_law 493 = .ok (.bipush 9, 2) := by decide +kernel
theorem dL_law_495 : decode cL_law 495 = .ok (.istore 12, 2) := by decide +kernel
theorem dL_law_497 : decode cL_law 497 = .ok (.bipush (-9), 2) := by decide +kernel
theorem dL_law_499 : decode cL_law 499 = .ok (.istore 13, 2) := by decide +kernel
theorem dL_law_501 : decode cL_law 501 = .ok (.bipush 9, 2) := by decide +kernel
theorem dL_law_503 : decode cL_law 503 = .ok (.istore 14, 2) := by decide +kernel
theorem dL_law_505 : decode cL_law 505 = .ok (.iconst 0, 1) := by decide +kernel
theorem dL_law_506 : decode cL_law 506 = .ok (.istore 15, 2) := by decide +kernel
theorem dL_law_508 : decode cL_law 508 = .ok (.iload 15, 2) := by decide +kernel
theorem dL_law_510 : decode cL_law 510 = .ok (.aload_n 2, 1) := by decide +kernel
theorem dL_law_511 : decode cL_law 511 = .ok (.iconst 1, 1) := by decide +kernel
theorem dL_law_512 : decode cL_law 512 = .ok (.iaload, 1) := by decide +kernel
theorem dL_law_513 : decode cL_law 513 = .ok (.if_icmp .ge 202, 3) := by decide +kernel
theorem dL_law_516 : decode cL_law 516 = .ok (.aload_n 2, 1) := by decide +kernel
theorem dL_law_517 : decode cL_law 517 = .ok (.aload_n 3, 1) := by decide +kernel
theorem dL_law_518 : decode cL_law 518 = .ok (.iload 15, 2) := by decide +kernel
theorem dL_law_520 : decode cL_law 520 = .ok (.invokestatic 39, 3) := by decide +kernel
theorem dL_law_523 : decode cL_law 523 = .ok (.ifCond .ne 6, 3) := by decide +kernel
theorem dL_law_526 : decode cL_law 526 = .ok (.goto 183, 3) := by decide +kernel
theorem dL_law_529 : decode cL_law 529 = .ok (.aload 8, 2) := by decide +kernel
theorem dL_law_531 : decode cL_law 531 = .ok (.iload 9, 2) := by decide +kernel
theorem dL_law_533 : decode cL_law 533 = .ok (.iload 15, 2) := by decide +kernel
theorem dL_law_535 : decode cL_law 535 = .ok (.iastore, 1) := by decide +kernel
theorem dL_law_536 : decode cL_law 536 = .ok (.aload_n 2, 1) := by decide +kernel
theorem dL_law_537 : decode cL_law 537 = .ok (.aload_n 3, 1) := by decide +kernel
theorem dL_law_538 : decode cL_law 538 = .ok (.aload_n 2, 1) := by decide +kernel
theorem dL_law_539 : decode cL_law 539 = .ok (.bipush 33, 2) := by decide +kernel
theorem dL_law_541 : decode cL_law 541 = .ok (.iaload, 1) := by decide +kernel
theorem dL_law_542 : decode cL_law 542 = .ok (.aload 8, 2) := by decide +kernel
theorem dL_law_544 : decode cL_law 544 = .ok (.iconst 0, 1) := by decide +kernel
theorem dL_law_545 : decode cL_law 545 = .ok (.iload 9, 2) := by decide +kernel
theorem dL_law_547 : decode cL_law 547 = .ok (.invokestatic 67, 3) := by decide +kernel
theorem dL_law_550 : decode cL_law 550 = .ok (.istore 16, 2) := by decide +kernel
theorem dL_law_552 : decode cL_law 552 = .ok (.aload_n 2, 1) := by decide +kernel
theorem dL_law_553 : decode cL_law 553 = .ok (.aload_n 3, 1) := by decide +kernel
theorem dL_law_554 : decode cL_law 554 = .ok (.aload_n 2, 1) := by decide +kernel
theorem dL_law_555 : decode cL_law 555 = .ok (.bipush 33, 2) := by decide +kernel
theorem dL_law_557 : decode cL_law 557 = .ok (.iaload, 1) := by decide +kernel
theorem dL_law_558 : decode cL_law 558 = .ok (.iload 15, 2) := by decide +kernel
theorem dL_law_560 : decode cL_law 560 = .ok (.invokestatic 35, 3) := by decide +kernel
theorem dL_law_563 : decode cL_law 563 = .ok (.istore 17, 2) := by decide +kernel
theorem dL_law_565 : decode cL_law 565 = .ok (.aload_n 2, 1) := by decide +kernel
theorem dL_law_566 : decode cL_law 566 = .ok (.bipush 12, 2) := by decide +kernel
theorem dL_law_568 : decode cL_law 568 = .ok (.iload 15, 2) := by decide +kernel
theorem dL_law_570 : decode cL_law 570 = .ok (.iadd, 1) := by decide +kernel
theorem dL_law_571 : decode cL_law 571 = .ok (.iaload, 1) := by decide +kernel
theorem dL_law_572 : decode cL_law 572 = .ok (.iload 9, 2) := by decide +kernel
theorem dL_law_574 : decode cL_law 574 = .ok (.if_icmp .ne 47, 3) := by decide +kernel
theorem dL_law_577 : decode cL_law 577 = .ok (.iload 16, 2) := by decide +kernel
theorem dL_law_579 : decode cL_law 579 = .ok (.iload 12, 2) := by decide +kernel
theorem dL_law_581 : decode cL_law 581 = .ok (.if_icmp .gt 128, 3) := by decide +kernel
theorem dL_law_584 : decode cL_law 584 = .ok (.iload 16, 2) := by decide +kernel
theorem dL_law_586 : decode cL_law 586 = .ok (.iload 12, 2) := by decide +kernel
theorem dL_law_588 : decode cL_law 588 = .ok (.if_icmp .ne 22, 3) := by decide +kernel
theorem dL_law_591 : decode cL_law 591 = .ok (.iload 17, 2) := by decide +kernel
theorem dL_law_593 : decode cL_law 593 = .ok (.aload_n 2, 1) := by decide +kernel
theorem dL_law_594 : decode cL_law 594 = .ok (.aload_n 3, 1) := by decide +kernel
theorem dL_law_595 : decode cL_law 595 = .ok (.aload_n 2, 1) := by decide +kernel
theorem dL_law_596 : decode cL_law 596 = .ok (.bipush 33, 2) := by decide +kernel
theorem dL_law_598 : decode cL_law 598 = .ok (.iaload, 1) := by decide +kernel
theorem dL_law_599 : decode cL_law 599 = .ok (.iload 11, 2) := by decide +kernel
theorem dL_law_601 : decode cL_law 601 = .ok (.invokestatic 35, 3) := by decide +kernel
theorem dL_law_604 : decode cL_law 604 = .ok (.if_icmp .lt 6, 3) := by decide +kernel
theorem dL_law_607 : decode cL_law 607 = .ok (.goto 102, 3) := by decide +kernel
theorem dL_law_610 : decode cL_law 610 = .ok (.iload 15, 2) := by decide +kernel
theorem dL_law_612 : decode cL_law 612 = .ok (.istore 11, 2) := by decide +kernel
theorem dL_law_614 : decode cL_law 614 = .ok (.iload 16, 2) := by decide +kernel
theorem dL_law_616 : decode cL_law 616 = .ok (.istore 12, 2) := by decide +kernel
theorem dL_law_618 : decode cL_law 618 = .ok (.goto 91, 3) := by decide +kernel
theorem dL_law_621 : decode cL_law 621 = .ok (.iconst 0, 1) := by decide +kernel
theorem dL_law_622 : decode cL_law 622 = .ok (.istore 18, 2) := by decide +kernel
theorem dL_law_624 : decode cL_law 624 = .ok (.iconst 0, 1) := by decide +kernel
theorem dL_law_625 : decode cL_law 625 = .ok (.istore 19, 2) := by decide +kernel
theorem dL_law_627 : decode cL_law 627 = .ok (.iload 19, 2) := by decide +kernel
theorem dL_law_629 : decode cL_law 629 = .ok (.aload_n 2, 1) := by decide +kernel
theorem dL_law_630 : decode cL_law 630 = .ok (.iconst 0, 1) := by decide +kernel
theorem dL_law_631 : decode cL_law 631 = .ok (.iaload, 1) := by decide +kernel
theorem dL_law_632 : decode cL_law 632 = .ok (.if_icmp .ge 31, 3) := by decide +kernel
theorem dL_law_635 : decode cL_law 635 = .ok (.iload 18, 2) := by decide +kernel
theorem dL_law_637 : decode cL_law 637 = .ok (.ifCond .ne 13, 3) := by decide +kernel
theorem dL_law_640 : decode cL_law 640 = .ok (.aload 4, 2) := by decide +kernel
theorem dL_law_642 : decode cL_law 642 = .ok (.iload 19, 2) := by decide +kernel
theorem dL_law_644 : decode cL_law 644 = .ok (.iaload, 1) := by decide +kernel
theorem dL_law_645 : decode cL_law 645 = .ok (.iload 15, 2) := by decide +kernel
theorem dL_law_647 : decode cL_law 647 = .ok (.if_icmp .ne 7, 3) := by decide +kernel
theorem dL_law_650 : decode cL_law 650 = .ok (.iconst 1, 1) := by decide +kernel
theorem dL_law_651 : decode cL_law 651 = .ok (.goto 4, 3) := by decide +kernel
theorem dL_law_654 : decode cL_law 654 = .ok (.iconst 0, 1) := by decide +kernel
theorem dL_law_655 : decode cL_law 655 = .ok (.istore 18, 2) := by decide +kernel
theorem dL_law_657 : decode cL_law 657 = .ok (.iinc 19 1, 3) := by decide +kernel
theorem dL_law_660 : decode cL_law 660 = .ok (.goto (-33), 3) := by decide +kernel
theorem dL_law_663 : decode cL_law 663 = .ok (.iload 18, 2) := by decide +kernel
theorem dL_law_665 : decode cL_law 665 = .ok (.ifCond .ne 44, 3) := by decide +kernel
theorem dL_law_668 : decode cL_law 668 = .ok (.iload 16, 2) := by decide +kernel
theorem dL_law_670 : decode cL_law 670 = .ok (.iload 14, 2) := by decide +kernel
theorem dL_law_672 : decode cL_law 672 = .ok (.if_icmp .gt 37, 3) := by decide +kernel
theorem dL_law_675 : decode cL_law 675 = .ok (.iload 16, 2) := by decide +kernel
theorem dL_law_677 : decode cL_law 677 = .ok (.iload 14, 2) := by decide +kernel
theorem dL_law_679 : decode cL_law 679 = .ok (.if_icmp .ne 22, 3) := by decide +kernel
theorem dL_law_682 : decode cL_law 682 = .ok (.iload 17, 2) := by decide +kernel
theorem dL_law_684 : decode cL_law 684 = .ok (.aload_n 2, 1) := by decide +kernel
theorem dL_law_685 : decode cL_law 685 = .ok (.aload_n 3, 1) := by decide +kernel
theorem dL_law_686 : decode cL_law 686 = .ok (.aload_n 2, 1) := by decide +kernel
theorem dL_law_687 : decode cL_law 687 = .ok (.bipush 33, 2) := by decide +kernel
theorem dL_law_689 : decode cL_law 689 = .ok (.iaload, 1) := by decide +kernel
theorem dL_law_690 : decode cL_law 690 = .ok (.iload 13, 2) := by decide +kernel
theorem dL_law_692 : decode cL_law 692 = .ok (.invokestatic 35, 3) := by decide +kernel
theorem dL_law_695 : decode cL_law 695 = .ok (.if_icmp .lt 6, 3) := by decide +kernel
theorem dL_law_698 : decode cL_law 698 = .ok (.goto 11, 3) := by decide +kernel
theorem dL_law_701 : decode cL_law 701 = .ok (.iload 15, 2) := by decide +kernel
theorem dL_law_703 : decode cL_law 703 = .ok (.istore 13, 2) := by decide +kernel
theorem dL_law_705 : decode cL_law 705 = .ok (.iload 16, 2) := by decide +kernel
theorem dL_law_707 : decode cL_law 707 = .ok (.istore 14, 2) := by decide +kernel
theorem dL_law_709 : decode cL_law 709 = .ok (.iinc 15 1, 3) := by decide +kernel
theorem dL_law_712 : decode cL_law 712 = .ok (.goto (-204), 3) := by decide +kernel
theorem dL_law_715 : decode cL_law 715 = .ok (.aload_n 1, 1) := by decide +kernel
theorem dL_law_716 : decode cL_law 716 = .ok (.iload 9, 2) := by decide +kernel
theorem dL_law_718 : decode cL_law 718 = .ok (.iconst 0, 1) := by decide +kernel
theorem dL_law_719 : decode cL_law 719 = .ok (.invokevirtual 71, 3) := by decide +kernel
theorem dL_law_722 : decode cL_law 722 = .ok (.iload 11, 2) := by decide +kernel
theorem dL_law_724 : decode cL_law 724 = .ok (.if_icmp .ne 59, 3) := by decide +kernel
theorem dL_law_727 : decode cL_law 727 = .ok (.aload_n 1, 1) := by decide +kernel
theorem dL_law_728 : decode cL_law 728 = .ok (.iload 9, 2) := by decide +kernel
theorem dL_law_730 : decode cL_law 730 = .ok (.iconst 1, 1) := by decide +kernel
theorem dL_law_731 : decode cL_law 731 = .ok (.invokevirtual 71, 3) := by decide +kernel
theorem dL_law_734 : decode cL_law 734 = .ok (.iload 11, 2) := by decide +kernel
theorem dL_law_736 : decode cL_law 736 = .ok (.ifCond .ge 8, 3) := by decide +kernel
theorem dL_law_739 : decode cL_law 739 = .ok (.bipush (-9), 2) := by decide +kernel
theorem dL_law_741 : decode cL_law 741 = .ok (.goto 5, 3) := by decide +kernel
theorem dL_law_744 : decode cL_law 744 = .ok (.iload 12, 2) := by decide +kernel
theorem dL_law_746 : decode cL_law 746 = .ok (.if_icmp .ne 37, 3) := by decide +kernel
theorem dL_law_749 : decode cL_law 749 = .ok (.aload_n 1, 1) := by decide +kernel
theorem dL_law_750 : decode cL_law 750 = .ok (.iload 9, 2) := by decide +kernel
theorem dL_law_752 : decode cL_law 752 = .ok (.iconst 0, 1) := by decide +kernel
theorem dL_law_753 : decode cL_law 753 = .ok (.invokevirtual 74, 3) := by decide +kernel
theorem dL_law_756 : decode cL_law 756 = .ok (.iload 13, 2) := by decide +kernel
theorem dL_law_758 : decode cL_law 758 = .ok (.if_icmp .ne 25, 3) := by decide +kernel
theorem dL_law_761 : decode cL_law 761 = .ok (.aload_n 1, 1) := by decide +kernel
theorem dL_law_762 : decode cL_law 762 = .ok (.iload 9, 2) := by decide +kernel
theorem dL_law_764 : decode cL_law 764 = .ok (.iconst 1, 1) := by decide +kernel
theorem dL_law_765 : decode cL_law 765 = .ok (.invokevirtual 74, 3) := by decide +kernel
theorem dL_law_768 : decode cL_law 768 = .ok (.iload 13, 2) := by decide +kernel
theorem dL_law_770 : decode cL_law 770 = .ok (.ifCond .ge 8, 3) := by decide +kernel
theorem dL_law_773 : decode cL_law 773 = .ok (.bipush (-9), 2) := by decide +kernel
theorem dL_law_775 : decode cL_law 775 = .ok (.goto 5, 3) := by decide +kernel
theorem dL_law_778 : decode cL_law 778 = .ok (.iload 14, 2) := by decide +kernel
theorem dL_law_780 : decode cL_law 780 = .ok (.if_icmp .eq 5, 3) := by decide +kernel
theorem dL_law_783 : decode cL_law 783 = .ok (.iconst 0, 1) := by decide +kernel
theorem dL_law_784 : decode cL_law 784 = .ok (.ireturn, 1) := by decide +kernel
theorem dL_law_785 : decode cL_law 785 = .ok (.iinc 9 1, 3) := by decide +kernel
theorem dL_law_788 : decode cL_law 788 = .ok (.goto (-469), 3) := by decide +kernel
theorem dL_law_791 : decode cL_law 791 = .ok (.iload 7, 2) := by decide +kernel
theorem dL_law_793 : decode cL_law 793 = .ok (.bipush 7, 2) := by decide +kernel
theorem dL_law_795 : decode cL_law 795 = .ok (.ishr, 1) := by decide +kernel
theorem dL_law_796 : decode cL_law 796 = .ok (.iload 7, 2) := by decide +kernel
theorem dL_law_798 : decode cL_law 798 = .ok (.bipush 14, 2) := by decide +kernel
theorem dL_law_800 : decode cL_law 800 = .ok (.ishr, 1) := by decide +kernel
theorem dL_law_801 : decode cL_law 801 = .ok (.iconst 2, 1) := by decide +kernel
theorem dL_law_802 : decode cL_law 802 = .ok (.invokestatic 15, 3) := by decide +kernel
theorem dL_law_805 : decode cL_law 805 = .ok (.ifCond .ne 9, 3) := by decide +kernel
theorem dL_law_808 : decode cL_law 808 = .ok (.sipush 1000, 3) := by decide +kernel
theorem dL_law_811 : decode cL_law 811 = .ok (.goto 5, 3) := by decide +kernel
theorem dL_law_814 : decode cL_law 814 = .ok (.bipush 60, 2) := by decide +kernel
theorem dL_law_816 : decode cL_law 816 = .ok (.invokestatic 15, 3) := by decide +kernel
theorem dL_law_819 : decode cL_law 819 = .ok (.istore 9, 2) := by decide +kernel
theorem dL_law_821 : decode cL_law 821 = .ok (.iconst 0, 1) := by decide +kernel
theorem dL_law_822 : decode cL_law 822 = .ok (.istore 10, 2) := by decide +kernel
theorem dL_law_824 : decode cL_law 824 = .ok (.iconst 0, 1) := by decide +kernel
theorem dL_law_825 : decode cL_law 825 = .ok (.istore 11, 2) := by decide +kernel
theorem dL_law_827 : decode cL_law 827 = .ok (.iload 11, 2) := by decide +kernel
theorem dL_law_829 : decode cL_law 829 = .ok (.aload_n 2, 1) := by decide +kernel
theorem dL_law_830 : decode cL_law 830 = .ok (.iconst 0, 1) := by decide +kernel
theorem dL_law_831 : decode cL_law 831 = .ok (.iaload, 1) := by decide +kernel
theorem dL_law_832 : decode cL_law 832 = .ok (.if_icmp .ge 46, 3) := by decide +kernel
theorem dL_law_835 : decode cL_law 835 = .ok (.iload 10, 2) := by decide +kernel
theorem dL_law_837 : decode cL_law 837 = .ok (.aload 4, 2) := by decide +kernel
theorem dL_law_839 : decode cL_law 839 = .ok (.iload 11, 2) := by decide +kernel
theorem dL_law_841 : decode cL_law 841 = .ok (.iaload, 1) := by decide +kernel
theorem dL_law_842 : decode cL_law 842 = .ok (.ifCond .lt 26, 3) := by decide +kernel
theorem dL_law_845 : decode cL_law 845 = .ok (.aload_n 2, 1) := by decide +kernel
theorem dL_law_846 : decode cL_law 846 = .ok (.aload_n 3, 1) := by decide +kernel
theorem dL_law_847 : decode cL_law 847 = .ok (.aload_n 2, 1) := by decide +kernel
theorem dL_law_848 : decode cL_law 848 = .ok (.bipush 33, 2) := by decide +kernel
theorem dL_law_850 : decode cL_law 850 = .ok (.iaload, 1) := by decide +kernel
theorem dL_law_851 : decode cL_law 851 = .ok (.aload 4, 2) := by decide +kernel
theorem dL_law_853 : decode cL_law 853 = .ok (.iload 11, 2) := by decide +kernel
theorem dL_law_855 : decode cL_law 855 = .ok (.iaload, 1) := by decide +kernel
theorem dL_law_856 : decode cL_law 856 = .ok (.invokestatic 35, 3) := by decide +kernel
theorem dL_law_859 : decode cL_law 859 = .ok (.iload 9, 2) := by decide +kernel
theorem dL_law_861 : decode cL_law 861 = .ok (.if_icmp .lt 7, 3) := by decide +kernel
theorem dL_law_864 : decode cL_law 864 = .ok (.iconst 1, 1) := by decide +kernel
theorem dL_law_865 : decode cL_law 865 = .ok (.goto 4, 3) := by decide +kernel
theorem dL_law_868 : decode cL_law 868 = .ok (.iconst 0, 1) := by decide +kernel
theorem dL_law_869 : decode cL_law 869 = .ok (.iadd, 1) := by decide +kernel
theorem dL_law_870 : decode cL_law 870 = .ok (.istore 10, 2) := by decide +kernel
theorem dL_law_872 : decode cL_law 872 = .ok (.iinc 11 1, 3) := by decide +kernel
theorem dL_law_875 : decode cL_law 875 = .ok (.goto (-48), 3) := by decide +kernel
theorem dL_law_878 : decode cL_law 878 = .ok (.aload_n 1, 1) := by decide +kernel
theorem dL_law_879 : decode cL_law 879 = .ok (.iload 9, 2) := by decide +kernel
theorem dL_law_881 : decode cL_law 881 = .ok (.invokevirtual 77, 3) := by decide +kernel
theorem dL_law_884 : decode cL_law 884 = .ok (.iload 10, 2) := by decide +kernel
theorem dL_law_886 : decode cL_law 886 = .ok (.if_icmp .eq 5, 3) := by decide +kernel
theorem dL_law_889 : decode cL_law 889 = .ok (.iconst 0, 1) := by decide +kernel
theorem dL_law_890 : decode cL_law 890 = .ok (.ireturn, 1) := by decide +kernel
theorem dL_law_891 : decode cL_law 891 = .ok (.iconst 0, 1) := by decide +kernel
theorem dL_law_892 : decode cL_law 892 = .ok (.istore 11, 2) := by decide +kernel
theorem dL_law_894 : decode cL_law 894 = .ok (.iconst 0, 1) := by decide +kernel
theorem dL_law_895 : decode cL_law 895 = .ok (.istore 12, 2) := by decide +kernel
theorem dL_law_897 : decode cL_law 897 = .ok (.iload 12, 2) := by decide +kernel
theorem dL_law_899 : decode cL_law 899 = .ok (.aload_n 2, 1) := by decide +kernel
theorem dL_law_900 : decode cL_law 900 = .ok (.iconst 0, 1) := by decide +kernel
theorem dL_law_901 : decode cL_law 901 = .ok (.iaload, 1) := by decide +kernel
theorem dL_law_902 : decode cL_law 902 = .ok (.if_icmp .ge 30, 3) := by decide +kernel
theorem dL_law_905 : decode cL_law 905 = .ok (.aload_n 2, 1) := by decide +kernel
theorem dL_law_906 : decode cL_law 906 = .ok (.aload_n 3, 1) := by decide +kernel
theorem dL_law_907 : decode cL_law 907 = .ok (.aload_n 2, 1) := by decide +kernel
theorem dL_law_908 : decode cL_law 908 = .ok (.bipush 33, 2) := by decide +kernel
theorem dL_law_910 : decode cL_law 910 = .ok (.iaload, 1) := by decide +kernel
theorem dL_law_911 : decode cL_law 911 = .ok (.aload 4, 2) := by decide +kernel
theorem dL_law_913 : decode cL_law 913 = .ok (.iconst 0, 1) := by decide +kernel
theorem dL_law_914 : decode cL_law 914 = .ok (.iload 12, 2) := by decide +kernel
theorem dL_law_916 : decode cL_law 916 = .ok (.invokestatic 67, 3) := by decide +kernel
theorem dL_law_919 : decode cL_law 919 = .ok (.ifCond .ne 7, 3) := by decide +kernel
theorem dL_law_922 : decode cL_law 922 = .ok (.iload 12, 2) := by decide +kernel
theorem dL_law_924 : decode cL_law 924 = .ok (.istore 11, 2) := by decide +kernel
theorem dL_law_926 : decode cL_law 926 = .ok (.iinc 12 1, 3) := by decide +kernel
theorem dL_law_929 : decode cL_law 929 = .ok (.goto (-32), 3) := by decide +kernel
theorem dL_law_932 : decode cL_law 932 = .ok (.aload_n 1, 1) := by decide +kernel
theorem dL_law_933 : decode cL_law 933 = .ok (.invokevirtual 80, 3) := by decide +kernel
theorem dL_law_936 : decode cL_law 936 = .ok (.iload 11, 2) := by decide +kernel
theorem dL_law_938 : decode cL_law 938 = .ok (.if_icmp .eq 5, 3) := by decide +kernel
theorem dL_law_941 : decode cL_law 941 = .ok (.iconst 0, 1) := by decide +kernel
theorem dL_law_942 : decode cL_law 942 = .ok (.ireturn, 1) := by decide +kernel
theorem dL_law_943 : decode cL_law 943 = .ok (.iconst 0, 1) := by decide +kernel
theorem dL_law_944 : decode cL_law 944 = .ok (.istore 12, 2) := by decide +kernel
theorem dL_law_946 : decode cL_law 946 = .ok (.iload 12, 2) := by decide +kernel
theorem dL_law_948 : decode cL_law 948 = .ok (.iconst 5, 1) := by decide +kernel
theorem dL_law_949 : decode cL_law 949 = .ok (.if_icmp .ge 32, 3) := by decide +kernel
theorem dL_law_952 : decode cL_law 952 = .ok (.aload_n 3, 1) := by decide +kernel
theorem dL_law_953 : decode cL_law 953 = .ok (.iconst 5, 1) := by decide +kernel
theorem dL_law_954 : decode cL_law 954 = .ok (.aload_n 2, 1) := by decide +kernel
theorem dL_law_955 : decode cL_law 955 = .ok (.bipush 33, 2) := by decide +kernel
theorem dL_law_957 : decode cL_law 957 = .ok (.iaload, 1) := by decide +kernel
theorem dL_law_958 : decode cL_law 958 = .ok (.imul, 1) := by decide +kernel
theorem dL_law_959 : decode cL_law 959 = .ok (.iload 12, 2) := by decide +kernel
theorem dL_law_961 : decode cL_law 961 = .ok (.iadd, 1) := by decide +kernel
theorem dL_law_962 : decode cL_law 962 = .ok (.aload 4, 2) := by decide +kernel
theorem dL_law_964 : decode cL_law 964 = .ok (.iload 12, 2) := by decide +kernel
theorem dL_law_966 : decode cL_law 966 = .ok (.iaload, 1) := by decide +kernel
theorem dL_law_967 : decode cL_law 967 = .ok (.iastore, 1) := by decide +kernel
theorem dL_law_968 : decode cL_law 968 = .ok (.aload 4, 2) := by decide +kernel
theorem dL_law_970 : decode cL_law 970 = .ok (.iload 12, 2) := by decide +kernel
theorem dL_law_972 : decode cL_law 972 = .ok (.bipush (-9), 2) := by decide +kernel
theorem dL_law_974 : decode cL_law 974 = .ok (.iastore, 1) := by decide +kernel
theorem dL_law_975 : decode cL_law 975 = .ok (.iinc 12 1, 3) := by decide +kernel
theorem dL_law_978 : decode cL_law 978 = .ok (.goto (-32), 3) := by decide +kernel
theorem dL_law_981 : decode cL_law 981 = .ok (.aload_n 2, 1) := by decide +kernel
theorem dL_law_982 : decode cL_law 982 = .ok (.bipush 33, 2) := by decide +kernel
theorem dL_law_984 : decode cL_law 984 = .ok (.dup2, 1) := by decide +kernel
theorem dL_law_985 : decode cL_law 985 = .ok (.iaload, 1) := by decide +kernel
theorem dL_law_986 : decode cL_law 986 = .ok (.iconst 1, 1) := by decide +kernel
theorem dL_law_987 : decode cL_law 987 = .ok (.iadd, 1) := by decide +kernel
theorem dL_law_988 : decode cL_law 988 = .ok (.iastore, 1) := by decide +kernel
theorem dL_law_989 : decode cL_law 989 = .ok (.iload 7, 2) := by decide +kernel
theorem dL_law_991 : decode cL_law 991 = .ok (.bipush 16, 2) := by decide +kernel
theorem dL_law_993 : decode cL_law 993 = .ok (.ishr, 1) := by decide +kernel
theorem dL_law_994 : decode cL_law 994 = .ok (.iconst 5, 1) := by decide +kernel
theorem dL_law_995 : decode cL_law 995 = .ok (.invokestatic 15, 3) := by decide +kernel
theorem dL_law_998 : decode cL_law 998 = .ok (.ifCond .ne 15, 3) := by decide +kernel
theorem dL_law_1001 : decode cL_law 1001 = .ok (.iload 7, 2) := by decide +kernel
theorem dL_law_1003 : decode cL_law 1003 = .ok (.bipush 17, 2) := by decide +kernel
theorem dL_law_1005 : decode cL_law 1005 = .ok (.ishr, 1) := by decide +kernel
theorem dL_law_1006 : decode cL_law 1006 = .ok (.iconst 3, 1) := by decide +kernel
theorem dL_law_1007 : decode cL_law 1007 = .ok (.invokestatic 15, 3) := by decide +kernel
theorem dL_law_1010 : decode cL_law 1010 = .ok (.goto 4, 3) := by decide +kernel
theorem dL_law_1013 : decode cL_law 1013 = .ok (.iconst 0, 1) := by decide +kernel
theorem dL_law_1014 : decode cL_law 1014 = .ok (.istore 12, 2) := by decide +kernel
theorem dL_law_1016 : decode cL_law 1016 = .ok (.iload 12, 2) := by decide +kernel
theorem dL_law_1018 : decode cL_law 1018 = .ok (.ifCond .le 36, 3) := by decide +kernel
theorem dL_law_1021 : decode cL_law 1021 = .ok (.iload 12, 2) := by decide +kernel
theorem dL_law_1023 : decode cL_law 1023 = .ok (.aload_n 2, 1) := by decide +kernel
theorem dL_law_1024 : decode cL_law 1024 = .ok (.bipush 33, 2) := by decide +kernel
theorem dL_law_1026 : decode cL_law 1026 = .ok (.iaload, 1) := by decide +kernel
theorem dL_law_1027 : decode cL_law 1027 = .ok (.if_icmp .gt 27, 3) := by decide +kernel
theorem dL_law_1030 : decode cL_law 1030 = .ok (.aload_n 2, 1) := by decide +kernel
theorem dL_law_1031 : decode cL_law 1031 = .ok (.bipush 33, 2) := by decide +kernel
theorem dL_law_1033 : decode cL_law 1033 = .ok (.dup2, 1) := by decide +kernel
theorem dL_law_1034 : decode cL_law 1034 = .ok (.iaload, 1) := by decide +kernel
theorem dL_law_1035 : decode cL_law 1035 = .ok (.iload 12, 2) := by decide +kernel
theorem dL_law_1037 : decode cL_law 1037 = .ok (.isub, 1) := by decide +kernel
theorem dL_law_1038 : decode cL_law 1038 = .ok (.iastore, 1) := by decide +kernel
theorem dL_law_1039 : decode cL_law 1039 = .ok (.aload_n 1, 1) := by decide +kernel
theorem dL_law_1040 : decode cL_law 1040 = .ok (.iload 12, 2) := by decide +kernel
theorem dL_law_1042 : decode cL_law 1042 = .ok (.invokevirtual 84, 3) := by decide +kernel
theorem dL_law_1045 : decode cL_law 1045 = .ok (.aload_n 2, 1) := by decide +kernel
theorem dL_law_1046 : decode cL_law 1046 = .ok (.bipush 33, 2) := by decide +kernel
theorem dL_law_1048 : decode cL_law 1048 = .ok (.iaload, 1) := by decide +kernel
theorem dL_law_1049 : decode cL_law 1049 = .ok (.if_icmp .eq 5, 3) := by decide +kernel
theorem dL_law_1052 : decode cL_law 1052 = .ok (.iconst 0, 1) := by decide +kernel
theorem dL_law_1053 : decode cL_law 1053 = .ok (.ireturn, 1) := by decide +kernel
theorem dL_law_1054 : decode cL_law 1054 = .ok (.bipush 25, 2) := by decide +kernel
theorem dL_law_1056 : decode cL_law 1056 = .ok (.newarray .int, 2) := by decide +kernel
theorem dL_law_1058 : decode cL_law 1058 = .ok (.astore 13, 2) := by decide +kernel
theorem dL_law_1060 : decode cL_law 1060 = .ok (.iconst 0, 1) := by decide +kernel
theorem dL_law_1061 : decode cL_law 1061 = .ok (.istore 14, 2) := by decide +kernel
theorem dL_law_1063 : decode cL_law 1063 = .ok (.iload 14, 2) := by decide +kernel
theorem dL_law_1065 : decode cL_law 1065 = .ok (.aload_n 2, 1) := by decide +kernel
theorem dL_law_1066 : decode cL_law 1066 = .ok (.bipush 33, 2) := by decide +kernel
theorem dL_law_1068 : decode cL_law 1068 = .ok (.iaload, 1) := by decide +kernel
theorem dL_law_1069 : decode cL_law 1069 = .ok (.if_icmp .ge 127, 3) := by decide +kernel
theorem dL_law_1072 : decode cL_law 1072 = .ok (.iconst 0, 1) := by decide +kernel
theorem dL_law_1073 : decode cL_law 1073 = .ok (.istore 15, 2) := by decide +kernel
theorem dL_law_1075 : decode cL_law 1075 = .ok (.iload 15, 2) := by decide +kernel
theorem dL_law_1077 : decode cL_law 1077 = .ok (.aload_n 2, 1) := by decide +kernel
theorem dL_law_1078 : decode cL_law 1078 = .ok (.iconst 0, 1) := by decide +kernel
theorem dL_law_1079 : decode cL_law 1079 = .ok (.iaload, 1) := by decide +kernel
theorem dL_law_1080 : decode cL_law 1080 = .ok (.if_icmp .ge 110, 3) := by decide +kernel
theorem dL_law_1083 : decode cL_law 1083 = .ok (.aload_n 2, 1) := by decide +kernel
theorem dL_law_1084 : decode cL_law 1084 = .ok (.aload_n 3, 1) := by decide +kernel
theorem dL_law_1085 : decode cL_law 1085 = .ok (.iload 14, 2) := by decide +kernel
theorem dL_law_1087 : decode cL_law 1087 = .ok (.aload_n 3, 1) := by decide +kernel
theorem dL_law_1088 : decode cL_law 1088 = .ok (.iconst 5, 1) := by decide +kernel
theorem dL_law_1089 : decode cL_law 1089 = .ok (.iload 14, 2) := by decide +kernel
theorem dL_law_1091 : decode cL_law 1091 = .ok (.imul, 1) := by decide +kernel
theorem dL_law_1092 : decode cL_law 1092 = .ok (.iload 15, 2) := by decide +kernel
theorem dL_law_1094 : decode cL_law 1094 = .ok (.invokestatic 67, 3) := by decide +kernel
theorem dL_law_1097 : decode cL_law 1097 = .ok (.istore 16, 2) := by decide +kernel
theorem dL_law_1099 : decode cL_law 1099 = .ok (.aload 13, 2) := by decide +kernel
theorem dL_law_1101 : decode cL_law 1101 = .ok (.iconst 5, 1) := by decide +kernel
theorem dL_law_1102 : decode cL_law 1102 = .ok (.iload 15, 2) := by decide +kernel
theorem dL_law_1104 : decode cL_law 1104 = .ok (.imul, 1) := by decide +kernel
theorem dL_law_1105 : decode cL_law 1105 = .ok (.iload 16, 2) := by decide +kernel
theorem dL_law_1107 : decode cL_law 1107 = .ok (.iadd, 1) := by decide +kernel
theorem dL_law_1108 : decode cL_law 1108 = .ok (.dup2, 1) := by decide +kernel
theorem dL_law_1109 : decode cL_law 1109 = .ok (.iaload, 1) := by decide +kernel
theorem dL_law_1110 : decode cL_law 1110 = .ok (.iconst 1, 1) := by decide +kernel
theorem dL_law_1111 : decode cL_law 1111 = .ok (.iadd, 1) := by decide +kernel
theorem dL_law_1112 : decode cL_law 1112 = .ok (.iastore, 1) := by decide +kernel
theorem dL_law_1113 : decode cL_law 1113 = .ok (.aload_n 3, 1) := by decide +kernel
theorem dL_law_1114 : decode cL_law 1114 = .ok (.iconst 5, 1) := by decide +kernel
theorem dL_law_1115 : decode cL_law 1115 = .ok (.iload 14, 2) := by decide +kernel
theorem dL_law_1117 : decode cL_law 1117 = .ok (.imul, 1) := by decide +kernel
theorem dL_law_1118 : decode cL_law 1118 = .ok (.iload 15, 2) := by decide +kernel
theorem dL_law_1120 : decode cL_law 1120 = .ok (.iadd, 1) := by decide +kernel
theorem dL_law_1121 : decode cL_law 1121 = .ok (.iaload, 1) := by decide +kernel
theorem dL_law_1122 : decode cL_law 1122 = .ok (.istore 17, 2) := by decide +kernel
theorem dL_law_1124 : decode cL_law 1124 = .ok (.aload_n 1, 1) := by decide +kernel
theorem dL_law_1125 : decode cL_law 1125 = .ok (.iload 14, 2) := by decide +kernel
theorem dL_law_1127 : decode cL_law 1127 = .ok (.iload 15, 2) := by decide +kernel
theorem dL_law_1129 : decode cL_law 1129 = .ok (.iconst 0, 1) := by decide +kernel
theorem dL_law_1130 : decode cL_law 1130 = .ok (.invokevirtual 87, 3) := by decide +kernel
theorem dL_law_1133 : decode cL_law 1133 = .ok (.iload 17, 2) := by decide +kernel
theorem dL_law_1135 : decode cL_law 1135 = .ok (.if_icmp .ne 47, 3) := by decide +kernel
theorem dL_law_1138 : decode cL_law 1138 = .ok (.aload_n 1, 1) := by decide +kernel
theorem dL_law_1139 : decode cL_law 1139 = .ok (.iload 14, 2) := by decide +kernel
theorem dL_law_1141 : decode cL_law 1141 = .ok (.iload 15, 2) := by decide +kernel
theorem dL_law_1143 : decode cL_law 1143 = .ok (.iconst 1, 1) := by decide +kernel
theorem dL_law_1144 : decode cL_law 1144 = .ok (.invokevirtual 87, 3) := by decide +kernel
theorem dL_law_1147 : decode cL_law 1147 = .ok (.iload 16, 2) := by decide +kernel
theorem dL_law_1149 : decode cL_law 1149 = .ok (.if_icmp .ne 33, 3) := by decide +kernel
theorem dL_law_1152 : decode cL_law 1152 = .ok (.aload_n 1, 1) := by decide +kernel
theorem dL_law_1153 : decode cL_law 1153 = .ok (.iload 14, 2) := by decide +kernel
theorem dL_law_1155 : decode cL_law 1155 = .ok (.iload 15, 2) := by decide +kernel
theorem dL_law_1157 : decode cL_law 1157 = .ok (.iconst 2, 1) := by decide +kernel
theorem dL_law_1158 : decode cL_law 1158 = .ok (.invokevirtual 87, 3) := by decide +kernel
theorem dL_law_1161 : decode cL_law 1161 = .ok (.iload 17, 2) := by decide +kernel
theorem dL_law_1163 : decode cL_law 1163 = .ok (.ifCond .ge 7, 3) := by decide +kernel
theorem dL_law_1166 : decode cL_law 1166 = .ok (.iconst 0, 1) := by decide +kernel
theorem dL_law_1167 : decode cL_law 1167 = .ok (.goto 12, 3) := by decide +kernel
theorem dL_law_1170 : decode cL_law 1170 = .ok (.aload_n 2, 1) := by decide +kernel
theorem dL_law_1171 : decode cL_law 1171 = .ok (.aload_n 3, 1) := by decide +kernel
theorem dL_law_1172 : decode cL_law 1172 = .ok (.iload 14, 2) := by decide +kernel
theorem dL_law_1174 : decode cL_law 1174 = .ok (.iload 17, 2) := by decide +kernel
theorem dL_law_1176 : decode cL_law 1176 = .ok (.invokestatic 35, 3) := by decide +kernel
theorem dL_law_1179 : decode cL_law 1179 = .ok (.if_icmp .eq 5, 3) := by decide +kernel
theorem dL_law_1182 : decode cL_law 1182 = .ok (.iconst 0, 1) := by decide +kernel
theorem dL_law_1183 : decode cL_law 1183 = .ok (.ireturn, 1) := by decide +kernel
theorem dL_law_1184 : decode cL_law 1184 = .ok (.iinc 15 1, 3) := by decide +kernel
theorem dL_law_1187 : decode cL_law 1187 = .ok (.goto (-112), 3) := by decide +kernel
theorem dL_law_1190 : decode cL_law 1190 = .ok (.iinc 14 1, 3) := by decide +kernel
theorem dL_law_1193 : decode cL_law 1193 = .ok (.goto (-130), 3) := by decide +kernel
theorem dL_law_1196 : decode cL_law 1196 = .ok (.iconst 0, 1) := by decide +kernel
theorem dL_law_1197 : decode cL_law 1197 = .ok (.istore 14, 2) := by decide +kernel
theorem dL_law_1199 : decode cL_law 1199 = .ok (.iload 14, 2) := by decide +kernel
theorem dL_law_1201 : decode cL_law 1201 = .ok (.bipush 25, 2) := by decide +kernel
theorem dL_law_1203 : decode cL_law 1203 = .ok (.if_icmp .ge 51, 3) := by decide +kernel
theorem dL_law_1206 : decode cL_law 1206 = .ok (.iload 14, 2) := by decide +kernel
theorem dL_law_1208 : decode cL_law 1208 = .ok (.iconst 5, 1) := by decide +kernel
theorem dL_law_1209 : decode cL_law 1209 = .ok (.idiv, 1) := by decide +kernel
theorem dL_law_1210 : decode cL_law 1210 = .ok (.aload_n 2, 1) := by decide +kernel
theorem dL_law_1211 : decode cL_law 1211 = .ok (.iconst 0, 1) := by decide +kernel
theorem dL_law_1212 : decode cL_law 1212 = .ok (.iaload, 1) := by decide +kernel
theorem dL_law_1213 : decode cL_law 1213 = .ok (.if_icmp .ge 35, 3) := by decide +kernel
theorem dL_law_1216 : decode cL_law 1216 = .ok (.iload 14, 2) := by decide +kernel
theorem dL_law_1218 : decode cL_law 1218 = .ok (.iconst 5, 1) := by decide +kernel
theorem dL_law_1219 : decode cL_law 1219 = .ok (.irem, 1) := by decide +kernel
theorem dL_law_1220 : decode cL_law 1220 = .ok (.aload_n 2, 1) := by decide +kernel
theorem dL_law_1221 : decode cL_law 1221 = .ok (.iconst 0, 1) := by decide +kernel
theorem dL_law_1222 : decode cL_law 1222 = .ok (.iaload, 1) := by decide +kernel
theorem dL_law_1223 : decode cL_law 1223 = .ok (.if_icmp .ge 25, 3) := by decide +kernel
theorem dL_law_1226 : decode cL_law 1226 = .ok (.aload_n 1, 1) := by decide +kernel
theorem dL_law_1227 : decode cL_law 1227 = .ok (.iload 14, 2) := by decide +kernel
theorem dL_law_1229 : decode cL_law 1229 = .ok (.iconst 5, 1) := by decide +kernel
theorem dL_law_1230 : decode cL_law 1230 = .ok (.idiv, 1) := by decide +kernel
theorem dL_law_1231 : decode cL_law 1231 = .ok (.iload 14, 2) := by decide +kernel
theorem dL_law_1233 : decode cL_law 1233 = .ok (.iconst 5, 1) := by decide +kernel
theorem dL_law_1234 : decode cL_law 1234 = .ok (.irem, 1) := by decide +kernel
theorem dL_law_1235 : decode cL_law 1235 = .ok (.invokevirtual 90, 3) := by decide +kernel
theorem dL_law_1238 : decode cL_law 1238 = .ok (.aload 13, 2) := by decide +kernel
theorem dL_law_1240 : decode cL_law 1240 = .ok (.iload 14, 2) := by decide +kernel
theorem dL_law_1242 : decode cL_law 1242 = .ok (.iaload, 1) := by decide +kernel
theorem dL_law_1243 : decode cL_law 1243 = .ok (.if_icmp .eq 5, 3) := by decide +kernel
theorem dL_law_1246 : decode cL_law 1246 = .ok (.iconst 0, 1) := by decide +kernel
theorem dL_law_1247 : decode cL_law 1247 = .ok (.ireturn, 1) := by decide +kernel
theorem dL_law_1248 : decode cL_law 1248 = .ok (.iinc 14 1, 3) := by decide +kernel
theorem dL_law_1251 : decode cL_law 1251 = .ok (.goto (-52), 3) := by decide +kernel
theorem dL_law_1254 : decode cL_law 1254 = .ok (.aload_n 1, 1) := by decide +kernel
theorem dL_law_1255 : decode cL_law 1255 = .ok (.iconst 2, 1) := by decide +kernel
theorem dL_law_1256 : decode cL_law 1256 = .ok (.invokevirtual 93, 3) := by decide +kernel
theorem dL_law_1259 : decode cL_law 1259 = .ok (.aload_n 2, 1) := by decide +kernel
theorem dL_law_1260 : decode cL_law 1260 = .ok (.bipush 33, 2) := by decide +kernel
theorem dL_law_1262 : decode cL_law 1262 = .ok (.iaload, 1) := by decide +kernel
theorem dL_law_1263 : decode cL_law 1263 = .ok (.if_icmp .ne 15, 3) := by decide +kernel
theorem dL_law_1266 : decode cL_law 1266 = .ok (.aload_n 1, 1) := by decide +kernel
theorem dL_law_1267 : decode cL_law 1267 = .ok (.iconst 3, 1) := by decide +kernel
theorem dL_law_1268 : decode cL_law 1268 = .ok (.invokevirtual 93, 3) := by decide +kernel
theorem dL_law_1271 : decode cL_law 1271 = .ok (.aload_n 2, 1) := by decide +kernel
theorem dL_law_1272 : decode cL_law 1272 = .ok (.bipush 32, 2) := by decide +kernel
theorem dL_law_1274 : decode cL_law 1274 = .ok (.iaload, 1) := by decide +kernel
theorem dL_law_1275 : decode cL_law 1275 = .ok (.if_icmp .eq 5, 3) := by decide +kernel
theorem dL_law_1278 : decode cL_law 1278 = .ok (.iconst 0, 1) := by decide +kernel
theorem dL_law_1279 : decode cL_law 1279 = .ok (.ireturn, 1) := by decide +kernel
theorem dL_law_1280 : decode cL_law 1280 = .ok (.iinc 6 1, 3) := by decide +kernel
theorem dL_law_1283 : decode cL_law 1283 = .ok (.goto (-1200), 3) := by decide +kernel
theorem dL_law_1286 : decode cL_law 1286 = .ok (.aload_n 2, 1) := by decide +kernel
theorem dL_law_1287 : decode cL_law 1287 = .ok (.iconst 0, 1) := by decide +kernel
theorem dL_law_1288 : decode cL_law 1288 = .ok (.iaload, 1) := by decide +kernel
theorem dL_law_1289 : decode cL_law 1289 = .ok (.istore 6, 2) := by decide +kernel
theorem dL_law_1291 : decode cL_law 1291 = .ok (.aload_n 1, 1) := by decide +kernel
theorem dL_law_1292 : decode cL_law 1292 = .ok (.iload 6, 2) := by decide +kernel
theorem dL_law_1294 : decode cL_law 1294 = .ok (.bipush (-9), 2) := by decide +kernel
theorem dL_law_1296 : decode cL_law 1296 = .ok (.invokevirtual 43, 3) := by decide +kernel
theorem dL_law_1299 : decode cL_law 1299 = .ok (.iconst (-1), 1) := by decide +kernel
theorem dL_law_1300 : decode cL_law 1300 = .ok (.if_icmp .ne 233, 3) := by decide +kernel
theorem dL_law_1303 : decode cL_law 1303 = .ok (.aload_n 1, 1) := by decide +kernel
theorem dL_law_1304 : decode cL_law 1304 = .ok (.iconst 0, 1) := by decide +kernel
theorem dL_law_1305 : decode cL_law 1305 = .ok (.aload_n 2, 1) := by decide +kernel
theorem dL_law_1306 : decode cL_law 1306 = .ok (.iconst 1, 1) := by decide +kernel
theorem dL_law_1307 : decode cL_law 1307 = .ok (.iaload, 1) := by decide +kernel
theorem dL_law_1308 : decode cL_law 1308 = .ok (.invokevirtual 43, 3) := by decide +kernel
theorem dL_law_1311 : decode cL_law 1311 = .ok (.iconst (-1), 1) := by decide +kernel
theorem dL_law_1312 : decode cL_law 1312 = .ok (.if_icmp .ne 221, 3) := by decide +kernel
theorem dL_law_1315 : decode cL_law 1315 = .ok (.aload_n 1, 1) := by decide +kernel
theorem dL_law_1316 : decode cL_law 1316 = .ok (.iconst 0, 1) := by decide +kernel
theorem dL_law_1317 : decode cL_law 1317 = .ok (.iconst (-1), 1) := by decide +kernel
theorem dL_law_1318 : decode cL_law 1318 = .ok (.invokevirtual 43, 3) := by decide +kernel
theorem dL_law_1321 : decode cL_law 1321 = .ok (.iconst (-1), 1) := by decide +kernel
theorem dL_law_1322 : decode cL_law 1322 = .ok (.if_icmp .ne 211, 3) := by decide +kernel
theorem dL_law_1325 : decode cL_law 1325 = .ok (.aload_n 1, 1) := by decide +kernel
theorem dL_law_1326 : decode cL_law 1326 = .ok (.bipush 100, 2) := by decide +kernel
theorem dL_law_1328 : decode cL_law 1328 = .ok (.invokevirtual 54, 3) := by decide +kernel
theorem dL_law_1331 : decode cL_law 1331 = .ok (.bipush (-2), 2) := by decide +kernel
theorem dL_law_1333 : decode cL_law 1333 = .ok (.if_icmp .ne 200, 3) := by decide +kernel
theorem dL_law_1336 : decode cL_law 1336 = .ok (.aload_n 1, 1) := by decide +kernel
theorem dL_law_1337 : decode cL_law 1337 = .ok (.iconst (-1), 1) := by decide +kernel
theorem dL_law_1338 : decode cL_law 1338 = .ok (.invokevirtual 54, 3) := by decide +kernel
theorem dL_law_1341 : decode cL_law 1341 = .ok (.bipush (-2), 2) := by decide +kernel
theorem dL_law_1343 : decode cL_law 1343 = .ok (.if_icmp .ne 190, 3) := by decide +kernel
theorem dL_law_1346 : decode cL_law 1346 = .ok (.aload_n 1, 1) := by decide +kernel
theorem dL_law_1347 : decode cL_law 1347 = .ok (.aload_n 2, 1) := by decide +kernel
theorem dL_law_1348 : decode cL_law 1348 = .ok (.bipush 33, 2) := by decide +kernel
theorem dL_law_1350 : decode cL_law 1350 = .ok (.iaload, 1) := by decide +kernel
theorem dL_law_1351 : decode cL_law 1351 = .ok (.iconst 0, 1) := by decide +kernel
theorem dL_law_1352 : decode cL_law 1352 = .ok (.iconst 0, 1) := by decide +kernel
theorem dL_law_1353 : decode cL_law 1353 = .ok (.invokevirtual 87, 3) := by decide +kernel
theorem dL_law_1356 : decode cL_law 1356 = .ok (.iconst (-1), 1) := by decide +kernel
theorem dL_law_1357 : decode cL_law 1357 = .ok (.if_icmp .ne 176, 3) := by decide +kernel
theorem dL_law_1360 : decode cL_law 1360 = .ok (.aload_n 1, 1) := by decide +kernel
theorem dL_law_1361 : decode cL_law 1361 = .ok (.iconst (-1), 1) := by decide +kernel
theorem dL_law_1362 : decode cL_law 1362 = .ok (.iconst 0, 1) := by decide +kernel
theorem dL_law_1363 : decode cL_law 1363 = .ok (.iconst 0, 1) := by decide +kernel
theorem dL_law_1364 : decode cL_law 1364 = .ok (.invokevirtual 87, 3) := by decide +kernel
theorem dL_law_1367 : decode cL_law 1367 = .ok (.iconst (-1), 1) := by decide +kernel
theorem dL_law_1368 : decode cL_law 1368 = .ok (.if_icmp .ne 165, 3) := by decide +kernel
theorem dL_law_1371 : decode cL_law 1371 = .ok (.aload_n 1, 1) := by decide +kernel
theorem dL_law_1372 : decode cL_law 1372 = .ok (.aload_n 2, 1) := by decide +kernel
theorem dL_law_1373 : decode cL_law 1373 = .ok (.bipush 33, 2) := by decide +kernel
theorem dL_law_1375 : decode cL_law 1375 = .ok (.iaload, 1) := by decide +kernel
theorem dL_law_1376 : decode cL_law 1376 = .ok (.iconst 1, 1) := by decide +kernel
theorem dL_law_1377 : decode cL_law 1377 = .ok (.iadd, 1) := by decide +kernel
theorem dL_law_1378 : decode cL_law 1378 = .ok (.invokevirtual 84, 3) := by decide +kernel
theorem dL_law_1381 : decode cL_law 1381 = .ok (.bipush (-2), 2) := by decide +kernel
theorem dL_law_1383 : decode cL_law 1383 = .ok (.if_icmp .ne 150, 3) := by decide +kernel
theorem dL_law_1386 : decode cL_law 1386 = .ok (.aload_n 1, 1) := by decide +kernel
theorem dL_law_1387 : decode cL_law 1387 = .ok (.iconst (-1), 1) := by decide +kernel
theorem dL_law_1388 : decode cL_law 1388 = .ok (.invokevirtual 84, 3) := by decide +kernel
theorem dL_law_1391 : decode cL_law 1391 = .ok (.bipush (-2), 2) := by decide +kernel
theorem dL_law_1393 : decode cL_law 1393 = .ok (.if_icmp .ne 140, 3) := by decide +kernel
theorem dL_law_1396 : decode cL_law 1396 = .ok (.aload_n 1, 1) := by decide +kernel
theorem dL_law_1397 : decode cL_law 1397 = .ok (.iload 6, 2) := by decide +kernel
theorem dL_law_1399 : decode cL_law 1399 = .ok (.iconst 0, 1) := by decide +kernel
theorem dL_law_1400 : decode cL_law 1400 = .ok (.invokevirtual 90, 3) := by decide +kernel
theorem dL_law_1403 : decode cL_law 1403 = .ok (.iconst (-1), 1) := by decide +kernel
theorem dL_law_1404 : decode cL_law 1404 = .ok (.if_icmp .ne 129, 3) := by decide +kernel
theorem dL_law_1407 : decode cL_law 1407 = .ok (.aload_n 1, 1) := by decide +kernel
theorem dL_law_1408 : decode cL_law 1408 = .ok (.iconst 0, 1) := by decide +kernel
theorem dL_law_1409 : decode cL_law 1409 = .ok (.iload 6, 2) := by decide +kernel
theorem dL_law_1411 : decode cL_law 1411 = .ok (.invokevirtual 90, 3) := by decide +kernel
theorem dL_law_1414 : decode cL_law 1414 = .ok (.iconst (-1), 1) := by decide +kernel
theorem dL_law_1415 : decode cL_law 1415 = .ok (.if_icmp .ne 118, 3) := by decide +kernel
theorem dL_law_1418 : decode cL_law 1418 = .ok (.aload_n 1, 1) := by decide +kernel
theorem dL_law_1419 : decode cL_law 1419 = .ok (.iload 6, 2) := by decide +kernel
theorem dL_law_1421 : decode cL_law 1421 = .ok (.iconst 0, 1) := by decide +kernel
theorem dL_law_1422 : decode cL_law 1422 = .ok (.invokevirtual 64, 3) := by decide +kernel
theorem dL_law_1425 : decode cL_law 1425 = .ok (.iconst (-1), 1) := by decide +kernel
theorem dL_law_1426 : decode cL_law 1426 = .ok (.if_icmp .ne 107, 3) := by decide +kernel
theorem dL_law_1429 : decode cL_law 1429 = .ok (.aload_n 1, 1) := by decide +kernel
theorem dL_law_1430 : decode cL_law 1430 = .ok (.iconst 0, 1) := by decide +kernel
theorem dL_law_1431 : decode cL_law 1431 = .ok (.iconst 3, 1) := by decide +kernel
theorem dL_law_1432 : decode cL_law 1432 = .ok (.invokevirtual 64, 3) := by decide +kernel
theorem dL_law_1435 : decode cL_law 1435 = .ok (.bipush (-2), 2) := by decide +kernel
theorem dL_law_1437 : decode cL_law 1437 = .ok (.if_icmp .ne 96, 3) := by decide +kernel
theorem dL_law_1440 : decode cL_law 1440 = .ok (.aload_n 1, 1) := by decide +kernel
theorem dL_law_1441 : decode cL_law 1441 = .ok (.iload 6, 2) := by decide +kernel
theorem dL_law_1443 : decode cL_law 1443 = .ok (.iconst 0, 1) := by decide +kernel
theorem dL_law_1444 : decode cL_law 1444 = .ok (.invokevirtual 71, 3) := by decide +kernel
theorem dL_law_1447 : decode cL_law 1447 = .ok (.iconst (-1), 1) := by decide +kernel
theorem dL_law_1448 : decode cL_law 1448 = .ok (.if_icmp .ne 85, 3) := by decide +kernel
theorem dL_law_1451 : decode cL_law 1451 = .ok (.aload_n 1, 1) := by decide +kernel
theorem dL_law_1452 : decode cL_law 1452 = .ok (.iconst 0, 1) := by decide +kernel
theorem dL_law_1453 : decode cL_law 1453 = .ok (.iconst 2, 1) := by decide +kernel
theorem dL_law_1454 : decode cL_law 1454 = .ok (.invokevirtual 71, 3) := by decide +kernel
theorem dL_law_1457 : decode cL_law 1457 = .ok (.bipush (-2), 2) := by decide +kernel
theorem dL_law_1459 : decode cL_law 1459 = .ok (.if_icmp .ne 74, 3) := by decide +kernel
theorem dL_law_1462 : decode cL_law 1462 = .ok (.aload_n 1, 1) := by decide +kernel
theorem dL_law_1463 : decode cL_law 1463 = .ok (.iconst (-1), 1) := by decide +kernel
theorem dL_law_1464 : decode cL_law 1464 = .ok (.iconst 0, 1) := by decide +kernel
theorem dL_law_1465 : decode cL_law 1465 = .ok (.invokevirtual 74, 3) := by decide +kernel
theorem dL_law_1468 : decode cL_law 1468 = .ok (.iconst (-1), 1) := by decide +kernel
theorem dL_law_1469 : decode cL_law 1469 = .ok (.if_icmp .ne 64, 3) := by decide +kernel
theorem dL_law_1472 : decode cL_law 1472 = .ok (.aload_n 1, 1) := by decide +kernel
theorem dL_law_1473 : decode cL_law 1473 = .ok (.iconst 0, 1) := by decide +kernel
theorem dL_law_1474 : decode cL_law 1474 = .ok (.iconst (-1), 1) := by decide +kernel
theorem dL_law_1475 : decode cL_law 1475 = .ok (.invokevirtual 74, 3) := by decide +kernel
theorem dL_law_1478 : decode cL_law 1478 = .ok (.bipush (-2), 2) := by decide +kernel
theorem dL_law_1480 : decode cL_law 1480 = .ok (.if_icmp .ne 53, 3) := by decide +kernel
theorem dL_law_1483 : decode cL_law 1483 = .ok (.aload_n 1, 1) := by decide +kernel
theorem dL_law_1484 : decode cL_law 1484 = .ok (.sipush 1000, 3) := by decide +kernel
theorem dL_law_1487 : decode cL_law 1487 = .ok (.invokevirtual 77, 3) := by decide +kernel
theorem dL_law_1490 : decode cL_law 1490 = .ok (.bipush (-2), 2) := by decide +kernel
theorem dL_law_1492 : decode cL_law 1492 = .ok (.if_icmp .ne 41, 3) := by decide +kernel
theorem dL_law_1495 : decode cL_law 1495 = .ok (.aload_n 1, 1) := by decide +kernel
theorem dL_law_1496 : decode cL_law 1496 = .ok (.iconst (-1), 1) := by decide +kernel
theorem dL_law_1497 : decode cL_law 1497 = .ok (.invokevirtual 77, 3) := by decide +kernel
theorem dL_law_1500 : decode cL_law 1500 = .ok (.bipush (-2), 2) := by decide +kernel
theorem dL_law_1502 : decode cL_law 1502 = .ok (.if_icmp .ne 31, 3) := by decide +kernel
theorem dL_law_1505 : decode cL_law 1505 = .ok (.aload_n 1, 1) := by decide +kernel
theorem dL_law_1506 : decode cL_law 1506 = .ok (.aload_n 2, 1) := by decide +kernel
theorem dL_law_1507 : decode cL_law 1507 = .ok (.iconst 1, 1) := by decide +kernel
theorem dL_law_1508 : decode cL_law 1508 = .ok (.iaload, 1) := by decide +kernel
theorem dL_law_1509 : decode cL_law 1509 = .ok (.iconst 0, 1) := by decide +kernel
theorem dL_law_1510 : decode cL_law 1510 = .ok (.invokevirtual 61, 3) := by decide +kernel
theorem dL_law_1513 : decode cL_law 1513 = .ok (.iconst (-1), 1) := by decide +kernel
theorem dL_law_1514 : decode cL_law 1514 = .ok (.if_icmp .ne 19, 3) := by decide +kernel
theorem dL_law_1517 : decode cL_law 1517 = .ok (.aload_n 1, 1) := by decide +kernel
theorem dL_law_1518 : decode cL_law 1518 = .ok (.iconst 0, 1) := by decide +kernel
theorem dL_law_1519 : decode cL_law 1519 = .ok (.bipush 7, 2) := by decide +kernel
theorem dL_law_1521 : decode cL_law 1521 = .ok (.invokevirtual 61, 3) := by decide +kernel
theorem dL_law_1524 : decode cL_law 1524 = .ok (.bipush (-2), 2) := by decide +kernel
theorem dL_law_1526 : decode cL_law 1526 = .ok (.if_icmp .ne 7, 3) := by decide +kernel
theorem dL_law_1529 : decode cL_law 1529 = .ok (.iconst 1, 1) := by decide +kernel
theorem dL_law_1530 : decode cL_law 1530 = .ok (.goto 4, 3) := by decide +kernel
theorem dL_law_1533 : decode cL_law 1533 = .ok (.iconst 0, 1) := by decide +kernel
theorem dL_law_1534 : decode cL_law 1534 = .ok (.ireturn, 1) := by decide +kernel
