/-! ===== BLOCKS: by program (wip/p26/blk.py) ===== -/
/-! BeeTurnpikeLaw law ([I)Z -/
theorem f_169_0 : mFetch 169 0 = some (.new 20, 3, [9, 91]) := by decide +kernel
theorem f_169_3 : mFetch 169 3 = some (.dup, 1, []) := by decide +kernel
theorem f_169_4 : mFetch 169 4 = some (.invokespecial 230, 3, [95, 1, 5, 0, 93, 94]) := by decide +kernel
theorem f_169_7 : mFetch 169 7 = some (.astore_n 1, 1, []) := by decide +kernel
theorem f_169_8 : mFetch 169 8 = some (.new 32, 3, [12, 1552]) := by decide +kernel
theorem f_169_11 : mFetch 169 11 = some (.dup, 1, []) := by decide +kernel
theorem f_169_12 : mFetch 169 12 = some (.invokespecial 34, 3, [158, 1, 5, 0, 1554, 1555]) := by decide +kernel
theorem f_169_15 : mFetch 169 15 = some (.astore_n 2, 1, []) := by decide +kernel
theorem f_169_16 : mFetch 169 16 = some (.aload_n 0, 1, []) := by decide +kernel
theorem f_169_17 : mFetch 169 17 = some (.aload_n 2, 1, []) := by decide +kernel
theorem f_169_18 : mFetch 169 18 = some (.invokestatic 231, 3, [167, 2, 0, 0, 1318, 1319]) := by decide +kernel
theorem f_169_21 : mFetch 169 21 = some (.astore_n 3, 1, []) := by decide +kernel
theorem f_169_22 : mFetch 169 22 = some (.aload_n 1, 1, []) := by decide +kernel
theorem f_169_23 : mFetch 169 23 = some (.aload_n 2, 1, []) := by decide +kernel
theorem f_169_24 : mFetch 169 24 = some (.invokevirtual 44, 3, [161, 1, 2, 12, 1573, 1574, 1575]) := by decide +kernel
theorem f_169_27 : mFetch 169 27 = some (.invokestatic 235, 3, [165, 2, 0, 0, 938, 939]) := by decide +kernel
theorem f_169_30 : mFetch 169 30 = some (.ifCond .eq 5, 3, [35]) := by decide +kernel
theorem f_169_33 : mFetch 169 33 = some (.iconst 0, 1, []) := by decide +kernel
theorem f_169_34 : mFetch 169 34 = some (.ireturn, 1, [2]) := by decide +kernel
theorem f_169_35 : mFetch 169 35 = some (.aload_n 1, 1, []) := by decide +kernel
theorem f_169_36 : mFetch 169 36 = some (.iconst 4, 1, []) := by decide +kernel
theorem f_169_37 : mFetch 169 37 = some (.invokevirtual 239, 3, [99, 2, 2, 9, 473, 474, 475]) := by decide +kernel
theorem f_169_40 : mFetch 169 40 = some (.istore 4, 2, []) := by decide +kernel
theorem f_169_42 : mFetch 169 42 = some (.aload_n 1, 1, []) := by decide +kernel
theorem f_169_43 : mFetch 169 43 = some (.iconst 3, 1, []) := by decide +kernel
theorem f_169_44 : mFetch 169 44 = some (.invokevirtual 239, 3, [99, 2, 2, 9, 473, 474, 475]) := by decide +kernel
theorem f_169_47 : mFetch 169 47 = some (.istore 5, 2, []) := by decide +kernel
theorem f_169_49 : mFetch 169 49 = some (.aload_n 1, 1, []) := by decide +kernel
theorem f_169_50 : mFetch 169 50 = some (.iconst 2, 1, []) := by decide +kernel
theorem f_169_51 : mFetch 169 51 = some (.invokevirtual 239, 3, [99, 2, 2, 9, 473, 474, 475]) := by decide +kernel
theorem f_169_54 : mFetch 169 54 = some (.istore 6, 2, []) := by decide +kernel
theorem f_169_56 : mFetch 169 56 = some (.iconst 0, 1, []) := by decide +kernel
theorem f_169_57 : mFetch 169 57 = some (.istore 7, 2, []) := by decide +kernel
theorem f_169_59 : mFetch 169 59 = some (.iload 7, 2, []) := by decide +kernel
theorem f_169_61 : mFetch 169 61 = some (.bipush 16, 2, []) := by decide +kernel
theorem f_169_63 : mFetch 169 63 = some (.if_icmp .ge 1147, 3, [1210]) := by decide +kernel
theorem f_169_66 : mFetch 169 66 = some (.aload_n 0, 1, []) := by decide +kernel
theorem f_169_67 : mFetch 169 67 = some (.iload 7, 2, []) := by decide +kernel
theorem f_169_69 : mFetch 169 69 = some (.invokestatic 93, 3, [164, 2, 0, 0, 934, 935]) := by decide +kernel
theorem f_169_72 : mFetch 169 72 = some (.iconst 3, 1, []) := by decide +kernel
theorem f_169_73 : mFetch 169 73 = some (.ishr, 1, []) := by decide +kernel
theorem f_169_74 : mFetch 169 74 = some (.bipush 59, 2, []) := by decide +kernel
theorem f_169_76 : mFetch 169 76 = some (.iload 7, 2, []) := by decide +kernel
theorem f_169_78 : mFetch 169 78 = some (.imul, 1, []) := by decide +kernel
theorem f_169_79 : mFetch 169 79 = some (.iadd, 1, []) := by decide +kernel
theorem f_169_80 : mFetch 169 80 = some (.istore 8, 2, []) := by decide +kernel
theorem f_169_82 : mFetch 169 82 = some (.aload_n 1, 1, []) := by decide +kernel
theorem f_169_83 : mFetch 169 83 = some (.aload_n 3, 1, []) := by decide +kernel
theorem f_169_84 : mFetch 169 84 = some (.iload 8, 2, []) := by decide +kernel
theorem f_169_86 : mFetch 169 86 = some (.invokestatic 242, 3, [168, 3, 0, 0, 1650, 1651]) := by decide +kernel
theorem f_169_89 : mFetch 169 89 = some (.ifCond .ne 5, 3, [94]) := by decide +kernel
theorem f_169_92 : mFetch 169 92 = some (.iconst 0, 1, []) := by decide +kernel
theorem f_169_93 : mFetch 169 93 = some (.ireturn, 1, [2]) := by decide +kernel
theorem f_169_94 : mFetch 169 94 = some (.aload_n 1, 1, []) := by decide +kernel
theorem f_169_95 : mFetch 169 95 = some (.invokevirtual 246, 3, [117, 1, 2, 9, 800, 801, 802]) := by decide +kernel
theorem f_169_98 : mFetch 169 98 = some (.lstore 9, 2, []) := by decide +kernel
theorem f_169_100 : mFetch 169 100 = some (.aload_n 1, 1, []) := by decide +kernel
theorem f_169_101 : mFetch 169 101 = some (.bipush 7, 2, []) := by decide +kernel
theorem f_169_103 : mFetch 169 103 = some (.invokevirtual 239, 3, [99, 2, 2, 9, 473, 474, 475]) := by decide +kernel
theorem f_169_106 : mFetch 169 106 = some (.istore 11, 2, []) := by decide +kernel
theorem f_169_108 : mFetch 169 108 = some (.aload_n 1, 1, []) := by decide +kernel
theorem f_169_109 : mFetch 169 109 = some (.bipush 8, 2, []) := by decide +kernel
theorem f_169_111 : mFetch 169 111 = some (.invokevirtual 239, 3, [99, 2, 2, 9, 473, 474, 475]) := by decide +kernel
theorem f_169_114 : mFetch 169 114 = some (.istore 12, 2, []) := by decide +kernel
theorem f_169_116 : mFetch 169 116 = some (.aload_n 1, 1, []) := by decide +kernel
theorem f_169_117 : mFetch 169 117 = some (.bipush 9, 2, []) := by decide +kernel
theorem f_169_119 : mFetch 169 119 = some (.invokevirtual 239, 3, [99, 2, 2, 9, 473, 474, 475]) := by decide +kernel
theorem f_169_122 : mFetch 169 122 = some (.istore 13, 2, []) := by decide +kernel
theorem f_169_124 : mFetch 169 124 = some (.iconst 0, 1, []) := by decide +kernel
theorem f_169_125 : mFetch 169 125 = some (.istore 14, 2, []) := by decide +kernel
theorem f_169_127 : mFetch 169 127 = some (.iconst 0, 1, []) := by decide +kernel
theorem f_169_128 : mFetch 169 128 = some (.istore 15, 2, []) := by decide +kernel
theorem f_169_130 : mFetch 169 130 = some (.iconst 0, 1, []) := by decide +kernel
theorem f_169_131 : mFetch 169 131 = some (.istore 16, 2, []) := by decide +kernel
theorem f_169_133 : mFetch 169 133 = some (.iconst 0, 1, []) := by decide +kernel
theorem f_169_134 : mFetch 169 134 = some (.istore 17, 2, []) := by decide +kernel
theorem f_169_136 : mFetch 169 136 = some (.iconst 0, 1, []) := by decide +kernel
theorem f_169_137 : mFetch 169 137 = some (.istore 18, 2, []) := by decide +kernel
theorem f_169_139 : mFetch 169 139 = some (.iload 4, 2, []) := by decide +kernel
theorem f_169_141 : mFetch 169 141 = some (.newarray .int, 2, [50]) := by decide +kernel
theorem f_169_143 : mFetch 169 143 = some (.astore 19, 2, []) := by decide +kernel
theorem f_169_145 : mFetch 169 145 = some (.iload 4, 2, []) := by decide +kernel
theorem f_169_147 : mFetch 169 147 = some (.iload 5, 2, []) := by decide +kernel
theorem f_169_149 : mFetch 169 149 = some (.multianewarray 131 2, 4, [1528]) := by decide +kernel
theorem f_169_153 : mFetch 169 153 = some (.astore 20, 2, []) := by decide +kernel
theorem f_169_155 : mFetch 169 155 = some (.iconst 0, 1, []) := by decide +kernel
theorem f_169_156 : mFetch 169 156 = some (.istore 21, 2, []) := by decide +kernel
theorem f_169_158 : mFetch 169 158 = some (.iload 21, 2, []) := by decide +kernel
theorem f_169_160 : mFetch 169 160 = some (.iload 4, 2, []) := by decide +kernel
theorem f_169_162 : mFetch 169 162 = some (.if_icmp .ge 345, 3, [507]) := by decide +kernel
theorem f_169_165 : mFetch 169 165 = some (.aload_n 1, 1, []) := by decide +kernel
theorem f_169_166 : mFetch 169 166 = some (.iload 21, 2, []) := by decide +kernel
theorem f_169_168 : mFetch 169 168 = some (.iconst 0, 1, []) := by decide +kernel
theorem f_169_169 : mFetch 169 169 = some (.invokevirtual 250, 3, [103, 3, 2, 9, 605, 606, 607]) := by decide +kernel
theorem f_169_172 : mFetch 169 172 = some (.iconst 1, 1, []) := by decide +kernel
theorem f_169_173 : mFetch 169 173 = some (.if_icmp .ne 7, 3, [180]) := by decide +kernel
theorem f_169_176 : mFetch 169 176 = some (.iconst 1, 1, []) := by decide +kernel
theorem f_169_177 : mFetch 169 177 = some (.goto 4, 3, [181]) := by decide +kernel
theorem f_169_180 : mFetch 169 180 = some (.iconst 0, 1, []) := by decide +kernel
theorem f_169_181 : mFetch 169 181 = some (.istore 22, 2, []) := by decide +kernel
theorem f_169_183 : mFetch 169 183 = some (.iload 14, 2, []) := by decide +kernel
theorem f_169_185 : mFetch 169 185 = some (.iload 22, 2, []) := by decide +kernel
theorem f_169_187 : mFetch 169 187 = some (.ifCond .eq 7, 3, [194]) := by decide +kernel
theorem f_169_190 : mFetch 169 190 = some (.iconst 1, 1, []) := by decide +kernel
theorem f_169_191 : mFetch 169 191 = some (.goto 4, 3, [195]) := by decide +kernel
theorem f_169_194 : mFetch 169 194 = some (.iconst 0, 1, []) := by decide +kernel
theorem f_169_195 : mFetch 169 195 = some (.iadd, 1, []) := by decide +kernel
theorem f_169_196 : mFetch 169 196 = some (.istore 14, 2, []) := by decide +kernel
theorem f_169_198 : mFetch 169 198 = some (.iload 15, 2, []) := by decide +kernel
theorem f_169_200 : mFetch 169 200 = some (.aload_n 1, 1, []) := by decide +kernel
theorem f_169_201 : mFetch 169 201 = some (.iload 21, 2, []) := by decide +kernel
theorem f_169_203 : mFetch 169 203 = some (.bipush 6, 2, []) := by decide +kernel
theorem f_169_205 : mFetch 169 205 = some (.invokevirtual 250, 3, [103, 3, 2, 9, 605, 606, 607]) := by decide +kernel
theorem f_169_208 : mFetch 169 208 = some (.iadd, 1, []) := by decide +kernel
theorem f_169_209 : mFetch 169 209 = some (.istore 15, 2, []) := by decide +kernel
theorem f_169_211 : mFetch 169 211 = some (.iload 16, 2, []) := by decide +kernel
theorem f_169_213 : mFetch 169 213 = some (.aload_n 1, 1, []) := by decide +kernel
theorem f_169_214 : mFetch 169 214 = some (.iload 21, 2, []) := by decide +kernel
theorem f_169_216 : mFetch 169 216 = some (.bipush 7, 2, []) := by decide +kernel
theorem f_169_218 : mFetch 169 218 = some (.invokevirtual 250, 3, [103, 3, 2, 9, 605, 606, 607]) := by decide +kernel
theorem f_169_221 : mFetch 169 221 = some (.iadd, 1, []) := by decide +kernel
theorem f_169_222 : mFetch 169 222 = some (.istore 16, 2, []) := by decide +kernel
theorem f_169_224 : mFetch 169 224 = some (.iload 17, 2, []) := by decide +kernel
theorem f_169_226 : mFetch 169 226 = some (.aload_n 1, 1, []) := by decide +kernel
theorem f_169_227 : mFetch 169 227 = some (.iload 21, 2, []) := by decide +kernel
theorem f_169_229 : mFetch 169 229 = some (.iconst 5, 1, []) := by decide +kernel
theorem f_169_230 : mFetch 169 230 = some (.invokevirtual 250, 3, [103, 3, 2, 9, 605, 606, 607]) := by decide +kernel
theorem f_169_233 : mFetch 169 233 = some (.iadd, 1, []) := by decide +kernel
theorem f_169_234 : mFetch 169 234 = some (.istore 17, 2, []) := by decide +kernel
theorem f_169_236 : mFetch 169 236 = some (.iload 18, 2, []) := by decide +kernel
theorem f_169_238 : mFetch 169 238 = some (.iconst 1, 1, []) := by decide +kernel
theorem f_169_239 : mFetch 169 239 = some (.aload_n 1, 1, []) := by decide +kernel
theorem f_169_240 : mFetch 169 240 = some (.iload 21, 2, []) := by decide +kernel
theorem f_169_242 : mFetch 169 242 = some (.bipush 8, 2, []) := by decide +kernel
theorem f_169_244 : mFetch 169 244 = some (.invokevirtual 250, 3, [103, 3, 2, 9, 605, 606, 607]) := by decide +kernel
theorem f_169_247 : mFetch 169 247 = some (.ishl, 1, []) := by decide +kernel
theorem f_169_248 : mFetch 169 248 = some (.ior, 1, []) := by decide +kernel
theorem f_169_249 : mFetch 169 249 = some (.istore 18, 2, []) := by decide +kernel
theorem f_169_251 : mFetch 169 251 = some (.aload_n 1, 1, []) := by decide +kernel
theorem f_169_252 : mFetch 169 252 = some (.iload 21, 2, []) := by decide +kernel
theorem f_169_254 : mFetch 169 254 = some (.iconst 1, 1, []) := by decide +kernel
theorem f_169_255 : mFetch 169 255 = some (.invokevirtual 250, 3, [103, 3, 2, 9, 605, 606, 607]) := by decide +kernel
theorem f_169_258 : mFetch 169 258 = some (.ifCond .lt 61, 3, [319]) := by decide +kernel
theorem f_169_261 : mFetch 169 261 = some (.aload_n 1, 1, []) := by decide +kernel
theorem f_169_262 : mFetch 169 262 = some (.iload 21, 2, []) := by decide +kernel
theorem f_169_264 : mFetch 169 264 = some (.iconst 2, 1, []) := by decide +kernel
theorem f_169_265 : mFetch 169 265 = some (.invokevirtual 250, 3, [103, 3, 2, 9, 605, 606, 607]) := by decide +kernel
theorem f_169_268 : mFetch 169 268 = some (.ifCond .lt 51, 3, [319]) := by decide +kernel
theorem f_169_271 : mFetch 169 271 = some (.aload_n 1, 1, []) := by decide +kernel
theorem f_169_272 : mFetch 169 272 = some (.iload 21, 2, []) := by decide +kernel
theorem f_169_274 : mFetch 169 274 = some (.iconst 2, 1, []) := by decide +kernel
theorem f_169_275 : mFetch 169 275 = some (.invokevirtual 250, 3, [103, 3, 2, 9, 605, 606, 607]) := by decide +kernel
theorem f_169_278 : mFetch 169 278 = some (.iconst 2, 1, []) := by decide +kernel
theorem f_169_279 : mFetch 169 279 = some (.if_icmp .gt 40, 3, [319]) := by decide +kernel
theorem f_169_282 : mFetch 169 282 = some (.iload 22, 2, []) := by decide +kernel
theorem f_169_284 : mFetch 169 284 = some (.ifCond .eq 14, 3, [298]) := by decide +kernel
theorem f_169_287 : mFetch 169 287 = some (.aload_n 1, 1, []) := by decide +kernel
theorem f_169_288 : mFetch 169 288 = some (.iload 21, 2, []) := by decide +kernel
theorem f_169_290 : mFetch 169 290 = some (.iconst 2, 1, []) := by decide +kernel
theorem f_169_291 : mFetch 169 291 = some (.invokevirtual 250, 3, [103, 3, 2, 9, 605, 606, 607]) := by decide +kernel
theorem f_169_294 : mFetch 169 294 = some (.iconst 1, 1, []) := by decide +kernel
theorem f_169_295 : mFetch 169 295 = some (.if_icmp .gt 24, 3, [319]) := by decide +kernel
theorem f_169_298 : mFetch 169 298 = some (.aload_n 1, 1, []) := by decide +kernel
theorem f_169_299 : mFetch 169 299 = some (.iload 21, 2, []) := by decide +kernel
theorem f_169_301 : mFetch 169 301 = some (.iconst 3, 1, []) := by decide +kernel
theorem f_169_302 : mFetch 169 302 = some (.invokevirtual 250, 3, [103, 3, 2, 9, 605, 606, 607]) := by decide +kernel
theorem f_169_305 : mFetch 169 305 = some (.ifCond .lt 14, 3, [319]) := by decide +kernel
theorem f_169_308 : mFetch 169 308 = some (.aload_n 1, 1, []) := by decide +kernel
theorem f_169_309 : mFetch 169 309 = some (.iload 21, 2, []) := by decide +kernel
theorem f_169_311 : mFetch 169 311 = some (.iconst 3, 1, []) := by decide +kernel
theorem f_169_312 : mFetch 169 312 = some (.invokevirtual 250, 3, [103, 3, 2, 9, 605, 606, 607]) := by decide +kernel
theorem f_169_315 : mFetch 169 315 = some (.iconst 3, 1, []) := by decide +kernel
theorem f_169_316 : mFetch 169 316 = some (.if_icmp .le 5, 3, [321]) := by decide +kernel
theorem f_169_319 : mFetch 169 319 = some (.iconst 0, 1, []) := by decide +kernel
theorem f_169_320 : mFetch 169 320 = some (.ireturn, 1, [2]) := by decide +kernel
theorem f_169_321 : mFetch 169 321 = some (.iconst 0, 1, []) := by decide +kernel
theorem f_169_322 : mFetch 169 322 = some (.istore 23, 2, []) := by decide +kernel
theorem f_169_324 : mFetch 169 324 = some (.iload 23, 2, []) := by decide +kernel
theorem f_169_326 : mFetch 169 326 = some (.iload 4, 2, []) := by decide +kernel
theorem f_169_328 : mFetch 169 328 = some (.if_icmp .ge 109, 3, [437]) := by decide +kernel
theorem f_169_331 : mFetch 169 331 = some (.aload_n 1, 1, []) := by decide +kernel
theorem f_169_332 : mFetch 169 332 = some (.iload 21, 2, []) := by decide +kernel
theorem f_169_334 : mFetch 169 334 = some (.bipush 8, 2, []) := by decide +kernel
theorem f_169_336 : mFetch 169 336 = some (.invokevirtual 250, 3, [103, 3, 2, 9, 605, 606, 607]) := by decide +kernel
theorem f_169_339 : mFetch 169 339 = some (.aload_n 1, 1, []) := by decide +kernel
theorem f_169_340 : mFetch 169 340 = some (.iload 23, 2, []) := by decide +kernel
theorem f_169_342 : mFetch 169 342 = some (.bipush 8, 2, []) := by decide +kernel
theorem f_169_344 : mFetch 169 344 = some (.invokevirtual 250, 3, [103, 3, 2, 9, 605, 606, 607]) := by decide +kernel
theorem f_169_347 : mFetch 169 347 = some (.if_icmp .lt 6, 3, [353]) := by decide +kernel
theorem f_169_350 : mFetch 169 350 = some (.goto 81, 3, [431]) := by decide +kernel
theorem f_169_353 : mFetch 169 353 = some (.aload_n 1, 1, []) := by decide +kernel
theorem f_169_354 : mFetch 169 354 = some (.iload 23, 2, []) := by decide +kernel
theorem f_169_356 : mFetch 169 356 = some (.iconst 0, 1, []) := by decide +kernel
theorem f_169_357 : mFetch 169 357 = some (.invokevirtual 250, 3, [103, 3, 2, 9, 605, 606, 607]) := by decide +kernel
theorem f_169_360 : mFetch 169 360 = some (.iconst 1, 1, []) := by decide +kernel
theorem f_169_361 : mFetch 169 361 = some (.if_icmp .ne 7, 3, [368]) := by decide +kernel
theorem f_169_364 : mFetch 169 364 = some (.iconst 1, 1, []) := by decide +kernel
theorem f_169_365 : mFetch 169 365 = some (.goto 4, 3, [369]) := by decide +kernel
theorem f_169_368 : mFetch 169 368 = some (.iconst 0, 1, []) := by decide +kernel
theorem f_169_369 : mFetch 169 369 = some (.istore 24, 2, []) := by decide +kernel
theorem f_169_371 : mFetch 169 371 = some (.iload 24, 2, []) := by decide +kernel
theorem f_169_373 : mFetch 169 373 = some (.ifCond .eq 8, 3, [381]) := by decide +kernel
theorem f_169_376 : mFetch 169 376 = some (.iload 22, 2, []) := by decide +kernel
theorem f_169_378 : mFetch 169 378 = some (.ifCond .eq 51, 3, [429]) := by decide +kernel
theorem f_169_381 : mFetch 169 381 = some (.iload 22, 2, []) := by decide +kernel
theorem f_169_383 : mFetch 169 383 = some (.iload 24, 2, []) := by decide +kernel
theorem f_169_385 : mFetch 169 385 = some (.if_icmp .ne 46, 3, [431]) := by decide +kernel
theorem f_169_388 : mFetch 169 388 = some (.aload_n 1, 1, []) := by decide +kernel
theorem f_169_389 : mFetch 169 389 = some (.iload 21, 2, []) := by decide +kernel
theorem f_169_391 : mFetch 169 391 = some (.iconst 1, 1, []) := by decide +kernel
theorem f_169_392 : mFetch 169 392 = some (.invokevirtual 250, 3, [103, 3, 2, 9, 605, 606, 607]) := by decide +kernel
theorem f_169_395 : mFetch 169 395 = some (.aload_n 1, 1, []) := by decide +kernel
theorem f_169_396 : mFetch 169 396 = some (.iload 23, 2, []) := by decide +kernel
theorem f_169_398 : mFetch 169 398 = some (.iconst 1, 1, []) := by decide +kernel
theorem f_169_399 : mFetch 169 399 = some (.invokevirtual 250, 3, [103, 3, 2, 9, 605, 606, 607]) := by decide +kernel
theorem f_169_402 : mFetch 169 402 = some (.if_icmp .lt 27, 3, [429]) := by decide +kernel
theorem f_169_405 : mFetch 169 405 = some (.aload_n 1, 1, []) := by decide +kernel
theorem f_169_406 : mFetch 169 406 = some (.iload 21, 2, []) := by decide +kernel
theorem f_169_408 : mFetch 169 408 = some (.iconst 1, 1, []) := by decide +kernel
theorem f_169_409 : mFetch 169 409 = some (.invokevirtual 250, 3, [103, 3, 2, 9, 605, 606, 607]) := by decide +kernel
theorem f_169_412 : mFetch 169 412 = some (.aload_n 1, 1, []) := by decide +kernel
theorem f_169_413 : mFetch 169 413 = some (.iload 23, 2, []) := by decide +kernel
theorem f_169_415 : mFetch 169 415 = some (.iconst 1, 1, []) := by decide +kernel
theorem f_169_416 : mFetch 169 416 = some (.invokevirtual 250, 3, [103, 3, 2, 9, 605, 606, 607]) := by decide +kernel
theorem f_169_419 : mFetch 169 419 = some (.if_icmp .ne 12, 3, [431]) := by decide +kernel
theorem f_169_422 : mFetch 169 422 = some (.iload 21, 2, []) := by decide +kernel
theorem f_169_424 : mFetch 169 424 = some (.iload 23, 2, []) := by decide +kernel
theorem f_169_426 : mFetch 169 426 = some (.if_icmp .le 5, 3, [431]) := by decide +kernel
theorem f_169_429 : mFetch 169 429 = some (.iconst 0, 1, []) := by decide +kernel
theorem f_169_430 : mFetch 169 430 = some (.ireturn, 1, [2]) := by decide +kernel
theorem f_169_431 : mFetch 169 431 = some (.iinc 23 1, 3, []) := by decide +kernel
theorem f_169_434 : mFetch 169 434 = some (.goto (-110), 3, [324]) := by decide +kernel
theorem f_169_437 : mFetch 169 437 = some (.iconst 0, 1, []) := by decide +kernel
theorem f_169_438 : mFetch 169 438 = some (.istore 23, 2, []) := by decide +kernel
theorem f_169_440 : mFetch 169 440 = some (.iload 23, 2, []) := by decide +kernel
theorem f_169_442 : mFetch 169 442 = some (.iload 6, 2, []) := by decide +kernel
theorem f_169_444 : mFetch 169 444 = some (.if_icmp .ge 25, 3, [469]) := by decide +kernel
theorem f_169_447 : mFetch 169 447 = some (.aload 19, 2, []) := by decide +kernel
theorem f_169_449 : mFetch 169 449 = some (.iload 21, 2, []) := by decide +kernel
theorem f_169_451 : mFetch 169 451 = some (.dup2, 1, []) := by decide +kernel
theorem f_169_452 : mFetch 169 452 = some (.iaload, 1, []) := by decide +kernel
theorem f_169_453 : mFetch 169 453 = some (.aload_n 1, 1, []) := by decide +kernel
theorem f_169_454 : mFetch 169 454 = some (.iload 21, 2, []) := by decide +kernel
theorem f_169_456 : mFetch 169 456 = some (.iload 23, 2, []) := by decide +kernel
theorem f_169_458 : mFetch 169 458 = some (.invokevirtual 253, 3, [105, 3, 2, 9, 623, 624, 625]) := by decide +kernel
theorem f_169_461 : mFetch 169 461 = some (.iadd, 1, []) := by decide +kernel
theorem f_169_462 : mFetch 169 462 = some (.iastore, 1, []) := by decide +kernel
theorem f_169_463 : mFetch 169 463 = some (.iinc 23 1, 3, []) := by decide +kernel
theorem f_169_466 : mFetch 169 466 = some (.goto (-26), 3, [440]) := by decide +kernel
theorem f_169_469 : mFetch 169 469 = some (.iconst 0, 1, []) := by decide +kernel
theorem f_169_470 : mFetch 169 470 = some (.istore 23, 2, []) := by decide +kernel
theorem f_169_472 : mFetch 169 472 = some (.iload 23, 2, []) := by decide +kernel
theorem f_169_474 : mFetch 169 474 = some (.iload 5, 2, []) := by decide +kernel
theorem f_169_476 : mFetch 169 476 = some (.if_icmp .ge 25, 3, [501]) := by decide +kernel
theorem f_169_479 : mFetch 169 479 = some (.aload 20, 2, []) := by decide +kernel
theorem f_169_481 : mFetch 169 481 = some (.iload 21, 2, []) := by decide +kernel
theorem f_169_483 : mFetch 169 483 = some (.aaload, 1, []) := by decide +kernel
theorem f_169_484 : mFetch 169 484 = some (.iload 23, 2, []) := by decide +kernel
theorem f_169_486 : mFetch 169 486 = some (.aload_n 1, 1, []) := by decide +kernel
theorem f_169_487 : mFetch 169 487 = some (.iload 21, 2, []) := by decide +kernel
theorem f_169_489 : mFetch 169 489 = some (.iload 23, 2, []) := by decide +kernel
theorem f_169_491 : mFetch 169 491 = some (.invokevirtual 255, 3, [106, 3, 2, 9, 628, 629, 630]) := by decide +kernel
theorem f_169_494 : mFetch 169 494 = some (.iastore, 1, []) := by decide +kernel
theorem f_169_495 : mFetch 169 495 = some (.iinc 23 1, 3, []) := by decide +kernel
theorem f_169_498 : mFetch 169 498 = some (.goto (-26), 3, [472]) := by decide +kernel
theorem f_169_501 : mFetch 169 501 = some (.iinc 21 1, 3, []) := by decide +kernel
theorem f_169_504 : mFetch 169 504 = some (.goto (-346), 3, [158]) := by decide +kernel
theorem f_169_507 : mFetch 169 507 = some (.iconst 0, 1, []) := by decide +kernel
theorem f_169_508 : mFetch 169 508 = some (.istore 21, 2, []) := by decide +kernel
theorem f_169_510 : mFetch 169 510 = some (.iconst 0, 1, []) := by decide +kernel
theorem f_169_511 : mFetch 169 511 = some (.istore 22, 2, []) := by decide +kernel
theorem f_169_513 : mFetch 169 513 = some (.iconst 0, 1, []) := by decide +kernel
theorem f_169_514 : mFetch 169 514 = some (.istore 23, 2, []) := by decide +kernel
theorem f_169_516 : mFetch 169 516 = some (.iload 23, 2, []) := by decide +kernel
theorem f_169_518 : mFetch 169 518 = some (.iload 5, 2, []) := by decide +kernel
theorem f_169_520 : mFetch 169 520 = some (.if_icmp .ge 52, 3, [572]) := by decide +kernel
theorem f_169_523 : mFetch 169 523 = some (.iload 21, 2, []) := by decide +kernel
theorem f_169_525 : mFetch 169 525 = some (.aload_n 1, 1, []) := by decide +kernel
theorem f_169_526 : mFetch 169 526 = some (.iload 23, 2, []) := by decide +kernel
theorem f_169_528 : mFetch 169 528 = some (.iconst 3, 1, []) := by decide +kernel
theorem f_169_529 : mFetch 169 529 = some (.invokevirtual 258, 3, [101, 3, 2, 9, 579, 580, 581]) := by decide +kernel
theorem f_169_532 : mFetch 169 532 = some (.iadd, 1, []) := by decide +kernel
theorem f_169_533 : mFetch 169 533 = some (.istore 21, 2, []) := by decide +kernel
theorem f_169_535 : mFetch 169 535 = some (.iload 22, 2, []) := by decide +kernel
theorem f_169_537 : mFetch 169 537 = some (.aload_n 1, 1, []) := by decide +kernel
theorem f_169_538 : mFetch 169 538 = some (.iload 23, 2, []) := by decide +kernel
theorem f_169_540 : mFetch 169 540 = some (.iconst 4, 1, []) := by decide +kernel
theorem f_169_541 : mFetch 169 541 = some (.invokevirtual 258, 3, [101, 3, 2, 9, 579, 580, 581]) := by decide +kernel
theorem f_169_544 : mFetch 169 544 = some (.iadd, 1, []) := by decide +kernel
theorem f_169_545 : mFetch 169 545 = some (.istore 22, 2, []) := by decide +kernel
theorem f_169_547 : mFetch 169 547 = some (.aload_n 1, 1, []) := by decide +kernel
theorem f_169_548 : mFetch 169 548 = some (.iload 23, 2, []) := by decide +kernel
theorem f_169_550 : mFetch 169 550 = some (.iconst 4, 1, []) := by decide +kernel
theorem f_169_551 : mFetch 169 551 = some (.invokevirtual 258, 3, [101, 3, 2, 9, 579, 580, 581]) := by decide +kernel
theorem f_169_554 : mFetch 169 554 = some (.aload_n 1, 1, []) := by decide +kernel
theorem f_169_555 : mFetch 169 555 = some (.iload 23, 2, []) := by decide +kernel
theorem f_169_557 : mFetch 169 557 = some (.iconst 3, 1, []) := by decide +kernel
theorem f_169_558 : mFetch 169 558 = some (.invokevirtual 258, 3, [101, 3, 2, 9, 579, 580, 581]) := by decide +kernel
theorem f_169_561 : mFetch 169 561 = some (.if_icmp .le 5, 3, [566]) := by decide +kernel
theorem f_169_564 : mFetch 169 564 = some (.iconst 0, 1, []) := by decide +kernel
theorem f_169_565 : mFetch 169 565 = some (.ireturn, 1, [2]) := by decide +kernel
theorem f_169_566 : mFetch 169 566 = some (.iinc 23 1, 3, []) := by decide +kernel
theorem f_169_569 : mFetch 169 569 = some (.goto (-53), 3, [516]) := by decide +kernel
theorem f_169_572 : mFetch 169 572 = some (.iload 14, 2, []) := by decide +kernel
theorem f_169_574 : mFetch 169 574 = some (.aload_n 1, 1, []) := by decide +kernel
theorem f_169_575 : mFetch 169 575 = some (.bipush 10, 2, []) := by decide +kernel
theorem f_169_577 : mFetch 169 577 = some (.invokevirtual 239, 3, [99, 2, 2, 9, 473, 474, 475]) := by decide +kernel
theorem f_169_580 : mFetch 169 580 = some (.if_icmp .ne 103, 3, [683]) := by decide +kernel
theorem f_169_583 : mFetch 169 583 = some (.iload 15, 2, []) := by decide +kernel
theorem f_169_585 : mFetch 169 585 = some (.aload_n 1, 1, []) := by decide +kernel
theorem f_169_586 : mFetch 169 586 = some (.bipush 11, 2, []) := by decide +kernel
theorem f_169_588 : mFetch 169 588 = some (.invokevirtual 239, 3, [99, 2, 2, 9, 473, 474, 475]) := by decide +kernel
theorem f_169_591 : mFetch 169 591 = some (.if_icmp .ne 92, 3, [683]) := by decide +kernel
theorem f_169_594 : mFetch 169 594 = some (.iload 16, 2, []) := by decide +kernel
theorem f_169_596 : mFetch 169 596 = some (.aload_n 1, 1, []) := by decide +kernel
theorem f_169_597 : mFetch 169 597 = some (.bipush 12, 2, []) := by decide +kernel
theorem f_169_599 : mFetch 169 599 = some (.invokevirtual 239, 3, [99, 2, 2, 9, 473, 474, 475]) := by decide +kernel
theorem f_169_602 : mFetch 169 602 = some (.if_icmp .ne 81, 3, [683]) := by decide +kernel
theorem f_169_605 : mFetch 169 605 = some (.iload 17, 2, []) := by decide +kernel
theorem f_169_607 : mFetch 169 607 = some (.aload_n 1, 1, []) := by decide +kernel
theorem f_169_608 : mFetch 169 608 = some (.bipush 13, 2, []) := by decide +kernel
theorem f_169_610 : mFetch 169 610 = some (.invokevirtual 239, 3, [99, 2, 2, 9, 473, 474, 475]) := by decide +kernel
theorem f_169_613 : mFetch 169 613 = some (.if_icmp .ne 70, 3, [683]) := by decide +kernel
theorem f_169_616 : mFetch 169 616 = some (.iload 18, 2, []) := by decide +kernel
theorem f_169_618 : mFetch 169 618 = some (.iconst 1, 1, []) := by decide +kernel
theorem f_169_619 : mFetch 169 619 = some (.iload 4, 2, []) := by decide +kernel
theorem f_169_621 : mFetch 169 621 = some (.ishl, 1, []) := by decide +kernel
theorem f_169_622 : mFetch 169 622 = some (.iconst 1, 1, []) := by decide +kernel
theorem f_169_623 : mFetch 169 623 = some (.isub, 1, []) := by decide +kernel
theorem f_169_624 : mFetch 169 624 = some (.if_icmp .ne 59, 3, [683]) := by decide +kernel
theorem f_169_627 : mFetch 169 627 = some (.iload 21, 2, []) := by decide +kernel
theorem f_169_629 : mFetch 169 629 = some (.iload 15, 2, []) := by decide +kernel
theorem f_169_631 : mFetch 169 631 = some (.iload 16, 2, []) := by decide +kernel
theorem f_169_633 : mFetch 169 633 = some (.iadd, 1, []) := by decide +kernel
theorem f_169_634 : mFetch 169 634 = some (.if_icmp .ne 49, 3, [683]) := by decide +kernel
theorem f_169_637 : mFetch 169 637 = some (.iload 22, 2, []) := by decide +kernel
theorem f_169_639 : mFetch 169 639 = some (.iload 15, 2, []) := by decide +kernel
theorem f_169_641 : mFetch 169 641 = some (.if_icmp .ne 42, 3, [683]) := by decide +kernel
theorem f_169_644 : mFetch 169 644 = some (.aload_n 1, 1, []) := by decide +kernel
theorem f_169_645 : mFetch 169 645 = some (.iconst 0, 1, []) := by decide +kernel
theorem f_169_646 : mFetch 169 646 = some (.invokevirtual 239, 3, [99, 2, 2, 9, 473, 474, 475]) := by decide +kernel
theorem f_169_649 : mFetch 169 649 = some (.iload 21, 2, []) := by decide +kernel
theorem f_169_651 : mFetch 169 651 = some (.aload_n 1, 1, []) := by decide +kernel
theorem f_169_652 : mFetch 169 652 = some (.bipush 14, 2, []) := by decide +kernel
theorem f_169_654 : mFetch 169 654 = some (.invokevirtual 239, 3, [99, 2, 2, 9, 473, 474, 475]) := by decide +kernel
theorem f_169_657 : mFetch 169 657 = some (.iadd, 1, []) := by decide +kernel
theorem f_169_658 : mFetch 169 658 = some (.if_icmp .ne 25, 3, [683]) := by decide +kernel
theorem f_169_661 : mFetch 169 661 = some (.aload_n 1, 1, []) := by decide +kernel
theorem f_169_662 : mFetch 169 662 = some (.bipush 15, 2, []) := by decide +kernel
theorem f_169_664 : mFetch 169 664 = some (.invokevirtual 239, 3, [99, 2, 2, 9, 473, 474, 475]) := by decide +kernel
theorem f_169_667 : mFetch 169 667 = some (.iload 15, 2, []) := by decide +kernel
theorem f_169_669 : mFetch 169 669 = some (.if_icmp .gt 14, 3, [683]) := by decide +kernel
theorem f_169_672 : mFetch 169 672 = some (.aload_n 1, 1, []) := by decide +kernel
theorem f_169_673 : mFetch 169 673 = some (.bipush 16, 2, []) := by decide +kernel
theorem f_169_675 : mFetch 169 675 = some (.invokevirtual 239, 3, [99, 2, 2, 9, 473, 474, 475]) := by decide +kernel
theorem f_169_678 : mFetch 169 678 = some (.iload 4, 2, []) := by decide +kernel
theorem f_169_680 : mFetch 169 680 = some (.if_icmp .le 5, 3, [685]) := by decide +kernel
theorem f_169_683 : mFetch 169 683 = some (.iconst 0, 1, []) := by decide +kernel
theorem f_169_684 : mFetch 169 684 = some (.ireturn, 1, [2]) := by decide +kernel
theorem f_169_685 : mFetch 169 685 = some (.iload 11, 2, []) := by decide +kernel
theorem f_169_687 : mFetch 169 687 = some (.ifCond .ge 26, 3, [713]) := by decide +kernel
theorem f_169_690 : mFetch 169 690 = some (.iload 12, 2, []) := by decide +kernel
theorem f_169_692 : mFetch 169 692 = some (.iconst (-1), 1, []) := by decide +kernel
theorem f_169_693 : mFetch 169 693 = some (.if_icmp .ne 43, 3, [736]) := by decide +kernel
theorem f_169_696 : mFetch 169 696 = some (.iload 13, 2, []) := by decide +kernel
theorem f_169_698 : mFetch 169 698 = some (.iconst (-1), 1, []) := by decide +kernel
theorem f_169_699 : mFetch 169 699 = some (.if_icmp .ne 37, 3, [736]) := by decide +kernel
theorem f_169_702 : mFetch 169 702 = some (.aload_n 1, 1, []) := by decide +kernel
theorem f_169_703 : mFetch 169 703 = some (.invokevirtual 261, 3, [115, 1, 2, 9, 791, 792, 793]) := by decide +kernel
theorem f_169_706 : mFetch 169 706 = some (.iconst (-1), 1, []) := by decide +kernel
theorem f_169_707 : mFetch 169 707 = some (.if_icmp .eq 31, 3, [738]) := by decide +kernel
theorem f_169_710 : mFetch 169 710 = some (.goto 26, 3, [736]) := by decide +kernel
theorem f_169_713 : mFetch 169 713 = some (.aload_n 1, 1, []) := by decide +kernel
theorem f_169_714 : mFetch 169 714 = some (.iload 12, 2, []) := by decide +kernel
theorem f_169_716 : mFetch 169 716 = some (.iconst 0, 1, []) := by decide +kernel
theorem f_169_717 : mFetch 169 717 = some (.invokevirtual 250, 3, [103, 3, 2, 9, 605, 606, 607]) := by decide +kernel
theorem f_169_720 : mFetch 169 720 = some (.iconst 1, 1, []) := by decide +kernel
theorem f_169_721 : mFetch 169 721 = some (.if_icmp .ne 15, 3, [736]) := by decide +kernel
theorem f_169_724 : mFetch 169 724 = some (.iload 13, 2, []) := by decide +kernel
theorem f_169_726 : mFetch 169 726 = some (.ifCond .lt 10, 3, [736]) := by decide +kernel
theorem f_169_729 : mFetch 169 729 = some (.aload_n 1, 1, []) := by decide +kernel
theorem f_169_730 : mFetch 169 730 = some (.invokevirtual 261, 3, [115, 1, 2, 9, 791, 792, 793]) := by decide +kernel
theorem f_169_733 : mFetch 169 733 = some (.ifCond .ge 5, 3, [738]) := by decide +kernel
theorem f_169_736 : mFetch 169 736 = some (.iconst 0, 1, []) := by decide +kernel
theorem f_169_737 : mFetch 169 737 = some (.ireturn, 1, [2]) := by decide +kernel
theorem f_169_738 : mFetch 169 738 = some (.aload_n 1, 1, []) := by decide +kernel
theorem f_169_739 : mFetch 169 739 = some (.invokevirtual 264, 3, [114, 1, 2, 9, 787, 788, 789]) := by decide +kernel
theorem f_169_742 : mFetch 169 742 = some (.istore 23, 2, []) := by decide +kernel
theorem f_169_744 : mFetch 169 744 = some (.iload 4, 2, []) := by decide +kernel
theorem f_169_746 : mFetch 169 746 = some (.newarray .int, 2, [50]) := by decide +kernel
theorem f_169_748 : mFetch 169 748 = some (.astore 24, 2, []) := by decide +kernel
theorem f_169_750 : mFetch 169 750 = some (.iconst 0, 1, []) := by decide +kernel
theorem f_169_751 : mFetch 169 751 = some (.istore 25, 2, []) := by decide +kernel
theorem f_169_753 : mFetch 169 753 = some (.iload 25, 2, []) := by decide +kernel
theorem f_169_755 : mFetch 169 755 = some (.iload 4, 2, []) := by decide +kernel
theorem f_169_757 : mFetch 169 757 = some (.if_icmp .ge 53, 3, [810]) := by decide +kernel
theorem f_169_760 : mFetch 169 760 = some (.aload 24, 2, []) := by decide +kernel
theorem f_169_762 : mFetch 169 762 = some (.iload 25, 2, []) := by decide +kernel
theorem f_169_764 : mFetch 169 764 = some (.aload_n 1, 1, []) := by decide +kernel
theorem f_169_765 : mFetch 169 765 = some (.iload 25, 2, []) := by decide +kernel
theorem f_169_767 : mFetch 169 767 = some (.invokevirtual 267, 3, [113, 2, 2, 9, 782, 783, 784]) := by decide +kernel
theorem f_169_770 : mFetch 169 770 = some (.iastore, 1, []) := by decide +kernel
theorem f_169_771 : mFetch 169 771 = some (.aload 24, 2, []) := by decide +kernel
theorem f_169_773 : mFetch 169 773 = some (.iload 25, 2, []) := by decide +kernel
theorem f_169_775 : mFetch 169 775 = some (.iaload, 1, []) := by decide +kernel
theorem f_169_776 : mFetch 169 776 = some (.ifCond .ne 7, 3, [783]) := by decide +kernel
theorem f_169_779 : mFetch 169 779 = some (.iconst 1, 1, []) := by decide +kernel
theorem f_169_780 : mFetch 169 780 = some (.goto 4, 3, [784]) := by decide +kernel
theorem f_169_783 : mFetch 169 783 = some (.iconst 0, 1, []) := by decide +kernel
theorem f_169_784 : mFetch 169 784 = some (.aload_n 1, 1, []) := by decide +kernel
theorem f_169_785 : mFetch 169 785 = some (.iload 25, 2, []) := by decide +kernel
theorem f_169_787 : mFetch 169 787 = some (.iconst 0, 1, []) := by decide +kernel
theorem f_169_788 : mFetch 169 788 = some (.invokevirtual 250, 3, [103, 3, 2, 9, 605, 606, 607]) := by decide +kernel
theorem f_169_791 : mFetch 169 791 = some (.ifCond .ne 7, 3, [798]) := by decide +kernel
theorem f_169_794 : mFetch 169 794 = some (.iconst 1, 1, []) := by decide +kernel
theorem f_169_795 : mFetch 169 795 = some (.goto 4, 3, [799]) := by decide +kernel
theorem f_169_798 : mFetch 169 798 = some (.iconst 0, 1, []) := by decide +kernel
theorem f_169_799 : mFetch 169 799 = some (.if_icmp .eq 5, 3, [804]) := by decide +kernel
theorem f_169_802 : mFetch 169 802 = some (.iconst 0, 1, []) := by decide +kernel
theorem f_169_803 : mFetch 169 803 = some (.ireturn, 1, [2]) := by decide +kernel
theorem f_169_804 : mFetch 169 804 = some (.iinc 25 1, 3, []) := by decide +kernel
theorem f_169_807 : mFetch 169 807 = some (.goto (-54), 3, [753]) := by decide +kernel
theorem f_169_810 : mFetch 169 810 = some (.aload_n 1, 1, []) := by decide +kernel
theorem f_169_811 : mFetch 169 811 = some (.iconst 1, 1, []) := by decide +kernel
theorem f_169_812 : mFetch 169 812 = some (.bipush 11, 2, []) := by decide +kernel
theorem f_169_814 : mFetch 169 814 = some (.invokevirtual 270, 3, [112, 3, 2, 9, 761, 762, 763]) := by decide +kernel
theorem f_169_817 : mFetch 169 817 = some (.istore 25, 2, []) := by decide +kernel
theorem f_169_819 : mFetch 169 819 = some (.aload_n 1, 1, []) := by decide +kernel
theorem f_169_820 : mFetch 169 820 = some (.invokevirtual 246, 3, [117, 1, 2, 9, 800, 801, 802]) := by decide +kernel
theorem f_169_823 : mFetch 169 823 = some (.lload 9, 2, []) := by decide +kernel
theorem f_169_825 : mFetch 169 825 = some (.lcmp, 1, []) := by decide +kernel
theorem f_169_826 : mFetch 169 826 = some (.ifCond .eq 5, 3, [831]) := by decide +kernel
theorem f_169_829 : mFetch 169 829 = some (.iconst 0, 1, []) := by decide +kernel
theorem f_169_830 : mFetch 169 830 = some (.ireturn, 1, [2]) := by decide +kernel
theorem f_169_831 : mFetch 169 831 = some (.iload 11, 2, []) := by decide +kernel
theorem f_169_833 : mFetch 169 833 = some (.ifCond .ge 7, 3, [840]) := by decide +kernel
theorem f_169_836 : mFetch 169 836 = some (.iconst 0, 1, []) := by decide +kernel
theorem f_169_837 : mFetch 169 837 = some (.goto 10, 3, [847]) := by decide +kernel
theorem f_169_840 : mFetch 169 840 = some (.aload_n 1, 1, []) := by decide +kernel
theorem f_169_841 : mFetch 169 841 = some (.iload 12, 2, []) := by decide +kernel
theorem f_169_843 : mFetch 169 843 = some (.iconst 0, 1, []) := by decide +kernel
theorem f_169_844 : mFetch 169 844 = some (.invokevirtual 253, 3, [105, 3, 2, 9, 623, 624, 625]) := by decide +kernel
theorem f_169_847 : mFetch 169 847 = some (.istore 26, 2, []) := by decide +kernel
theorem f_169_849 : mFetch 169 849 = some (.aload_n 1, 1, []) := by decide +kernel
theorem f_169_850 : mFetch 169 850 = some (.iconst 1, 1, []) := by decide +kernel
theorem f_169_851 : mFetch 169 851 = some (.invokevirtual 226, 3, [111, 2, 2, 9, 642, 643, 644]) := by decide +kernel
theorem f_169_854 : mFetch 169 854 = some (.istore 27, 2, []) := by decide +kernel
theorem f_169_856 : mFetch 169 856 = some (.aload_n 3, 1, []) := by decide +kernel
theorem f_169_857 : mFetch 169 857 = some (.iconst 1, 1, []) := by decide +kernel
theorem f_169_858 : mFetch 169 858 = some (.invokevirtual 229, 3, [145, 2, 2, 10, 822, 823, 824]) := by decide +kernel
theorem f_169_861 : mFetch 169 861 = some (.iload 27, 2, []) := by decide +kernel
theorem f_169_863 : mFetch 169 863 = some (.if_icmp .ne 44, 3, [907]) := by decide +kernel
theorem f_169_866 : mFetch 169 866 = some (.iload 27, 2, []) := by decide +kernel
theorem f_169_868 : mFetch 169 868 = some (.iload 11, 2, []) := by decide +kernel
theorem f_169_870 : mFetch 169 870 = some (.ifCond .ge 7, 3, [877]) := by decide +kernel
theorem f_169_873 : mFetch 169 873 = some (.iconst 0, 1, []) := by decide +kernel
theorem f_169_874 : mFetch 169 874 = some (.goto 4, 3, [878]) := by decide +kernel
theorem f_169_877 : mFetch 169 877 = some (.iconst 1, 1, []) := by decide +kernel
theorem f_169_878 : mFetch 169 878 = some (.if_icmp .ne 29, 3, [907]) := by decide +kernel
theorem f_169_881 : mFetch 169 881 = some (.aload_n 1, 1, []) := by decide +kernel
theorem f_169_882 : mFetch 169 882 = some (.bipush 11, 2, []) := by decide +kernel
theorem f_169_884 : mFetch 169 884 = some (.invokevirtual 239, 3, [99, 2, 2, 9, 473, 474, 475]) := by decide +kernel
theorem f_169_887 : mFetch 169 887 = some (.iload 25, 2, []) := by decide +kernel
theorem f_169_889 : mFetch 169 889 = some (.if_icmp .ne 18, 3, [907]) := by decide +kernel
theorem f_169_892 : mFetch 169 892 = some (.iload 11, 2, []) := by decide +kernel
theorem f_169_894 : mFetch 169 894 = some (.ifCond .ge 15, 3, [909]) := by decide +kernel
theorem f_169_897 : mFetch 169 897 = some (.aload_n 1, 1, []) := by decide +kernel
theorem f_169_898 : mFetch 169 898 = some (.invokevirtual 246, 3, [117, 1, 2, 9, 800, 801, 802]) := by decide +kernel
theorem f_169_901 : mFetch 169 901 = some (.lload 9, 2, []) := by decide +kernel
theorem f_169_903 : mFetch 169 903 = some (.lcmp, 1, []) := by decide +kernel
theorem f_169_904 : mFetch 169 904 = some (.ifCond .eq 5, 3, [909]) := by decide +kernel
theorem f_169_907 : mFetch 169 907 = some (.iconst 0, 1, []) := by decide +kernel
theorem f_169_908 : mFetch 169 908 = some (.ireturn, 1, [2]) := by decide +kernel
theorem f_169_909 : mFetch 169 909 = some (.iconst 0, 1, []) := by decide +kernel
theorem f_169_910 : mFetch 169 910 = some (.istore 28, 2, []) := by decide +kernel
theorem f_169_912 : mFetch 169 912 = some (.iload 28, 2, []) := by decide +kernel
theorem f_169_914 : mFetch 169 914 = some (.iload 4, 2, []) := by decide +kernel
theorem f_169_916 : mFetch 169 916 = some (.if_icmp .ge 201, 3, [1117]) := by decide +kernel
theorem f_169_919 : mFetch 169 919 = some (.iconst 0, 1, []) := by decide +kernel
theorem f_169_920 : mFetch 169 920 = some (.istore 29, 2, []) := by decide +kernel
theorem f_169_922 : mFetch 169 922 = some (.iconst 0, 1, []) := by decide +kernel
theorem f_169_923 : mFetch 169 923 = some (.istore 30, 2, []) := by decide +kernel
theorem f_169_925 : mFetch 169 925 = some (.iload 30, 2, []) := by decide +kernel
theorem f_169_927 : mFetch 169 927 = some (.iload 6, 2, []) := by decide +kernel
theorem f_169_929 : mFetch 169 929 = some (.if_icmp .ge 22, 3, [951]) := by decide +kernel
theorem f_169_932 : mFetch 169 932 = some (.iload 29, 2, []) := by decide +kernel
theorem f_169_934 : mFetch 169 934 = some (.aload_n 1, 1, []) := by decide +kernel
theorem f_169_935 : mFetch 169 935 = some (.iload 28, 2, []) := by decide +kernel
theorem f_169_937 : mFetch 169 937 = some (.iload 30, 2, []) := by decide +kernel
theorem f_169_939 : mFetch 169 939 = some (.invokevirtual 253, 3, [105, 3, 2, 9, 623, 624, 625]) := by decide +kernel
theorem f_169_942 : mFetch 169 942 = some (.iadd, 1, []) := by decide +kernel
theorem f_169_943 : mFetch 169 943 = some (.istore 29, 2, []) := by decide +kernel
theorem f_169_945 : mFetch 169 945 = some (.iinc 30 1, 3, []) := by decide +kernel
theorem f_169_948 : mFetch 169 948 = some (.goto (-23), 3, [925]) := by decide +kernel
theorem f_169_951 : mFetch 169 951 = some (.iload 28, 2, []) := by decide +kernel
theorem f_169_953 : mFetch 169 953 = some (.iload 12, 2, []) := by decide +kernel
theorem f_169_955 : mFetch 169 955 = some (.if_icmp .ne 18, 3, [973]) := by decide +kernel
theorem f_169_958 : mFetch 169 958 = some (.iload 13, 2, []) := by decide +kernel
theorem f_169_960 : mFetch 169 960 = some (.ifCond .lt 13, 3, [973]) := by decide +kernel
theorem f_169_963 : mFetch 169 963 = some (.aload_n 1, 1, []) := by decide +kernel
theorem f_169_964 : mFetch 169 964 = some (.iload 13, 2, []) := by decide +kernel
theorem f_169_966 : mFetch 169 966 = some (.iconst 0, 1, []) := by decide +kernel
theorem f_169_967 : mFetch 169 967 = some (.invokevirtual 258, 3, [101, 3, 2, 9, 579, 580, 581]) := by decide +kernel
theorem f_169_970 : mFetch 169 970 = some (.goto 4, 3, [974]) := by decide +kernel
theorem f_169_973 : mFetch 169 973 = some (.iconst 0, 1, []) := by decide +kernel
theorem f_169_974 : mFetch 169 974 = some (.istore 30, 2, []) := by decide +kernel
theorem f_169_976 : mFetch 169 976 = some (.iload 29, 2, []) := by decide +kernel
theorem f_169_978 : mFetch 169 978 = some (.aload 19, 2, []) := by decide +kernel
theorem f_169_980 : mFetch 169 980 = some (.iload 28, 2, []) := by decide +kernel
theorem f_169_982 : mFetch 169 982 = some (.iaload, 1, []) := by decide +kernel
theorem f_169_983 : mFetch 169 983 = some (.if_icmp .eq 18, 3, [1001]) := by decide +kernel
theorem f_169_986 : mFetch 169 986 = some (.iload 29, 2, []) := by decide +kernel
theorem f_169_988 : mFetch 169 988 = some (.aload 19, 2, []) := by decide +kernel
theorem f_169_990 : mFetch 169 990 = some (.iload 28, 2, []) := by decide +kernel
theorem f_169_992 : mFetch 169 992 = some (.iaload, 1, []) := by decide +kernel
theorem f_169_993 : mFetch 169 993 = some (.iload 30, 2, []) := by decide +kernel
theorem f_169_995 : mFetch 169 995 = some (.iadd, 1, []) := by decide +kernel
theorem f_169_996 : mFetch 169 996 = some (.if_icmp .eq 5, 3, [1001]) := by decide +kernel
theorem f_169_999 : mFetch 169 999 = some (.iconst 0, 1, []) := by decide +kernel
theorem f_169_1000 : mFetch 169 1000 = some (.ireturn, 1, [2]) := by decide +kernel
theorem f_169_1001 : mFetch 169 1001 = some (.iload 27, 2, []) := by decide +kernel
theorem f_169_1003 : mFetch 169 1003 = some (.iconst 1, 1, []) := by decide +kernel
theorem f_169_1004 : mFetch 169 1004 = some (.if_icmp .ne 29, 3, [1033]) := by decide +kernel
theorem f_169_1007 : mFetch 169 1007 = some (.aload 24, 2, []) := by decide +kernel
theorem f_169_1009 : mFetch 169 1009 = some (.iload 28, 2, []) := by decide +kernel
theorem f_169_1011 : mFetch 169 1011 = some (.iaload, 1, []) := by decide +kernel
theorem f_169_1012 : mFetch 169 1012 = some (.ifCond .le 21, 3, [1033]) := by decide +kernel
theorem f_169_1015 : mFetch 169 1015 = some (.aload_n 1, 1, []) := by decide +kernel
theorem f_169_1016 : mFetch 169 1016 = some (.iload 28, 2, []) := by decide +kernel
theorem f_169_1018 : mFetch 169 1018 = some (.invokevirtual 267, 3, [113, 2, 2, 9, 782, 783, 784]) := by decide +kernel
theorem f_169_1021 : mFetch 169 1021 = some (.aload 24, 2, []) := by decide +kernel
theorem f_169_1023 : mFetch 169 1023 = some (.iload 28, 2, []) := by decide +kernel
theorem f_169_1025 : mFetch 169 1025 = some (.iaload, 1, []) := by decide +kernel
theorem f_169_1026 : mFetch 169 1026 = some (.iconst 1, 1, []) := by decide +kernel
theorem f_169_1027 : mFetch 169 1027 = some (.isub, 1, []) := by decide +kernel
theorem f_169_1028 : mFetch 169 1028 = some (.if_icmp .eq 5, 3, [1033]) := by decide +kernel
theorem f_169_1031 : mFetch 169 1031 = some (.iconst 0, 1, []) := by decide +kernel
theorem f_169_1032 : mFetch 169 1032 = some (.ireturn, 1, [2]) := by decide +kernel
theorem f_169_1033 : mFetch 169 1033 = some (.iload 27, 2, []) := by decide +kernel
theorem f_169_1035 : mFetch 169 1035 = some (.iconst 1, 1, []) := by decide +kernel
theorem f_169_1036 : mFetch 169 1036 = some (.if_icmp .ne 24, 3, [1060]) := by decide +kernel
theorem f_169_1039 : mFetch 169 1039 = some (.aload 24, 2, []) := by decide +kernel
theorem f_169_1041 : mFetch 169 1041 = some (.iload 28, 2, []) := by decide +kernel
theorem f_169_1043 : mFetch 169 1043 = some (.iaload, 1, []) := by decide +kernel
theorem f_169_1044 : mFetch 169 1044 = some (.iconst 1, 1, []) := by decide +kernel
theorem f_169_1045 : mFetch 169 1045 = some (.if_icmp .ne 15, 3, [1060]) := by decide +kernel
theorem f_169_1048 : mFetch 169 1048 = some (.aload_n 1, 1, []) := by decide +kernel
theorem f_169_1049 : mFetch 169 1049 = some (.iload 28, 2, []) := by decide +kernel
theorem f_169_1051 : mFetch 169 1051 = some (.iconst 0, 1, []) := by decide +kernel
theorem f_169_1052 : mFetch 169 1052 = some (.invokevirtual 250, 3, [103, 3, 2, 9, 605, 606, 607]) := by decide +kernel
theorem f_169_1055 : mFetch 169 1055 = some (.ifCond .eq 5, 3, [1060]) := by decide +kernel
theorem f_169_1058 : mFetch 169 1058 = some (.iconst 0, 1, []) := by decide +kernel
theorem f_169_1059 : mFetch 169 1059 = some (.ireturn, 1, [2]) := by decide +kernel
theorem f_169_1060 : mFetch 169 1060 = some (.iconst 0, 1, []) := by decide +kernel
theorem f_169_1061 : mFetch 169 1061 = some (.istore 31, 2, []) := by decide +kernel
theorem f_169_1063 : mFetch 169 1063 = some (.iload 31, 2, []) := by decide +kernel
theorem f_169_1065 : mFetch 169 1065 = some (.iload 5, 2, []) := by decide +kernel
theorem f_169_1067 : mFetch 169 1067 = some (.if_icmp .ge 44, 3, [1111]) := by decide +kernel
theorem f_169_1070 : mFetch 169 1070 = some (.aload_n 1, 1, []) := by decide +kernel
theorem f_169_1071 : mFetch 169 1071 = some (.iload 28, 2, []) := by decide +kernel
theorem f_169_1073 : mFetch 169 1073 = some (.iload 31, 2, []) := by decide +kernel
theorem f_169_1075 : mFetch 169 1075 = some (.invokevirtual 255, 3, [106, 3, 2, 9, 628, 629, 630]) := by decide +kernel
theorem f_169_1078 : mFetch 169 1078 = some (.aload 20, 2, []) := by decide +kernel
theorem f_169_1080 : mFetch 169 1080 = some (.iload 28, 2, []) := by decide +kernel
theorem f_169_1082 : mFetch 169 1082 = some (.aaload, 1, []) := by decide +kernel
theorem f_169_1083 : mFetch 169 1083 = some (.iload 31, 2, []) := by decide +kernel
theorem f_169_1085 : mFetch 169 1085 = some (.iaload, 1, []) := by decide +kernel
theorem f_169_1086 : mFetch 169 1086 = some (.if_icmp .ge 19, 3, [1105]) := by decide +kernel
theorem f_169_1089 : mFetch 169 1089 = some (.iload 28, 2, []) := by decide +kernel
theorem f_169_1091 : mFetch 169 1091 = some (.iload 12, 2, []) := by decide +kernel
theorem f_169_1093 : mFetch 169 1093 = some (.if_icmp .ne 10, 3, [1103]) := by decide +kernel
theorem f_169_1096 : mFetch 169 1096 = some (.iload 31, 2, []) := by decide +kernel
theorem f_169_1098 : mFetch 169 1098 = some (.iload 13, 2, []) := by decide +kernel
theorem f_169_1100 : mFetch 169 1100 = some (.if_icmp .eq 5, 3, [1105]) := by decide +kernel
theorem f_169_1103 : mFetch 169 1103 = some (.iconst 0, 1, []) := by decide +kernel
theorem f_169_1104 : mFetch 169 1104 = some (.ireturn, 1, [2]) := by decide +kernel
theorem f_169_1105 : mFetch 169 1105 = some (.iinc 31 1, 3, []) := by decide +kernel
theorem f_169_1108 : mFetch 169 1108 = some (.goto (-45), 3, [1063]) := by decide +kernel
theorem f_169_1111 : mFetch 169 1111 = some (.iinc 28 1, 3, []) := by decide +kernel
theorem f_169_1114 : mFetch 169 1114 = some (.goto (-202), 3, [912]) := by decide +kernel
theorem f_169_1117 : mFetch 169 1117 = some (.iload 12, 2, []) := by decide +kernel
theorem f_169_1119 : mFetch 169 1119 = some (.ifCond .lt 17, 3, [1136]) := by decide +kernel
theorem f_169_1122 : mFetch 169 1122 = some (.aload_n 1, 1, []) := by decide +kernel
theorem f_169_1123 : mFetch 169 1123 = some (.iload 12, 2, []) := by decide +kernel
theorem f_169_1125 : mFetch 169 1125 = some (.iconst 0, 1, []) := by decide +kernel
theorem f_169_1126 : mFetch 169 1126 = some (.invokevirtual 253, 3, [105, 3, 2, 9, 623, 624, 625]) := by decide +kernel
theorem f_169_1129 : mFetch 169 1129 = some (.iload 26, 2, []) := by decide +kernel
theorem f_169_1131 : mFetch 169 1131 = some (.if_icmp .ge 5, 3, [1136]) := by decide +kernel
theorem f_169_1134 : mFetch 169 1134 = some (.iconst 0, 1, []) := by decide +kernel
theorem f_169_1135 : mFetch 169 1135 = some (.ireturn, 1, [2]) := by decide +kernel
theorem f_169_1136 : mFetch 169 1136 = some (.aload_n 1, 1, []) := by decide +kernel
theorem f_169_1137 : mFetch 169 1137 = some (.invokevirtual 264, 3, [114, 1, 2, 9, 787, 788, 789]) := by decide +kernel
theorem f_169_1140 : mFetch 169 1140 = some (.iload 23, 2, []) := by decide +kernel
theorem f_169_1142 : mFetch 169 1142 = some (.if_icmp .eq 5, 3, [1147]) := by decide +kernel
theorem f_169_1145 : mFetch 169 1145 = some (.iconst 0, 1, []) := by decide +kernel
theorem f_169_1146 : mFetch 169 1146 = some (.ireturn, 1, [2]) := by decide +kernel
theorem f_169_1147 : mFetch 169 1147 = some (.iload 27, 2, []) := by decide +kernel
theorem f_169_1149 : mFetch 169 1149 = some (.iconst 1, 1, []) := by decide +kernel
theorem f_169_1150 : mFetch 169 1150 = some (.if_icmp .ne 54, 3, [1204]) := by decide +kernel
theorem f_169_1153 : mFetch 169 1153 = some (.aload_n 1, 1, []) := by decide +kernel
theorem f_169_1154 : mFetch 169 1154 = some (.bipush 7, 2, []) := by decide +kernel
theorem f_169_1156 : mFetch 169 1156 = some (.invokevirtual 239, 3, [99, 2, 2, 9, 473, 474, 475]) := by decide +kernel
theorem f_169_1159 : mFetch 169 1159 = some (.iload 11, 2, []) := by decide +kernel
theorem f_169_1161 : mFetch 169 1161 = some (.if_icmp .le 43, 3, [1204]) := by decide +kernel
theorem f_169_1164 : mFetch 169 1164 = some (.aload_n 1, 1, []) := by decide +kernel
theorem f_169_1165 : mFetch 169 1165 = some (.bipush 10, 2, []) := by decide +kernel
theorem f_169_1167 : mFetch 169 1167 = some (.invokevirtual 239, 3, [99, 2, 2, 9, 473, 474, 475]) := by decide +kernel
theorem f_169_1170 : mFetch 169 1170 = some (.iconst 2, 1, []) := by decide +kernel
theorem f_169_1171 : mFetch 169 1171 = some (.if_icmp .ge 5, 3, [1176]) := by decide +kernel
theorem f_169_1174 : mFetch 169 1174 = some (.iconst 0, 1, []) := by decide +kernel
theorem f_169_1175 : mFetch 169 1175 = some (.ireturn, 1, [2]) := by decide +kernel
theorem f_169_1176 : mFetch 169 1176 = some (.iconst 0, 1, []) := by decide +kernel
theorem f_169_1177 : mFetch 169 1177 = some (.istore 28, 2, []) := by decide +kernel
theorem f_169_1179 : mFetch 169 1179 = some (.iload 28, 2, []) := by decide +kernel
theorem f_169_1181 : mFetch 169 1181 = some (.iload 4, 2, []) := by decide +kernel
theorem f_169_1183 : mFetch 169 1183 = some (.if_icmp .ge 21, 3, [1204]) := by decide +kernel
theorem f_169_1186 : mFetch 169 1186 = some (.aload_n 1, 1, []) := by decide +kernel
theorem f_169_1187 : mFetch 169 1187 = some (.iload 28, 2, []) := by decide +kernel
theorem f_169_1189 : mFetch 169 1189 = some (.iconst 2, 1, []) := by decide +kernel
theorem f_169_1190 : mFetch 169 1190 = some (.invokevirtual 250, 3, [103, 3, 2, 9, 605, 606, 607]) := by decide +kernel
theorem f_169_1193 : mFetch 169 1193 = some (.ifCond .eq 5, 3, [1198]) := by decide +kernel
theorem f_169_1196 : mFetch 169 1196 = some (.iconst 0, 1, []) := by decide +kernel
theorem f_169_1197 : mFetch 169 1197 = some (.ireturn, 1, [2]) := by decide +kernel
theorem f_169_1198 : mFetch 169 1198 = some (.iinc 28 1, 3, []) := by decide +kernel
theorem f_169_1201 : mFetch 169 1201 = some (.goto (-22), 3, [1179]) := by decide +kernel
theorem f_169_1204 : mFetch 169 1204 = some (.iinc 7 1, 3, []) := by decide +kernel
theorem f_169_1207 : mFetch 169 1207 = some (.goto (-1148), 3, [59]) := by decide +kernel
theorem f_169_1210 : mFetch 169 1210 = some (.aload_n 3, 1, []) := by decide +kernel
theorem f_169_1211 : mFetch 169 1211 = some (.aload_n 1, 1, []) := by decide +kernel
theorem f_169_1212 : mFetch 169 1212 = some (.invokevirtual 273, 3, [147, 2, 2, 10, 896, 897, 898]) := by decide +kernel
theorem f_169_1215 : mFetch 169 1215 = some (.ireturn, 1, [2]) := by decide +kernel
theorem lm_169_3 : mLvm 169 3 = 1 := by decide +kernel
theorem lm_169_7 : mLvm 169 7 = 1 := by decide +kernel
theorem lm_169_11 : mLvm 169 11 = 3 := by decide +kernel
theorem lm_169_15 : mLvm 169 15 = 3 := by decide +kernel
theorem lm_169_21 : mLvm 169 21 = 7 := by decide +kernel
theorem lm_169_27 : mLvm 169 27 = 11 := by decide +kernel
theorem lm_169_30 : mLvm 169 30 = 11 := by decide +kernel
theorem lm_169_33 : mLvm 169 33 = 0 := by decide +kernel
theorem lm_169_35 : mLvm 169 35 = 11 := by decide +kernel
theorem lm_169_40 : mLvm 169 40 = 11 := by decide +kernel
theorem lm_169_47 : mLvm 169 47 = 27 := by decide +kernel
theorem lm_169_54 : mLvm 169 54 = 59 := by decide +kernel
theorem lm_169_59 : mLvm 169 59 = 251 := by decide +kernel
theorem lm_169_66 : mLvm 169 66 = 251 := by decide +kernel
theorem lm_169_72 : mLvm 169 72 = 251 := by decide +kernel
theorem lm_169_89 : mLvm 169 89 = 251 := by decide +kernel
theorem lm_169_92 : mLvm 169 92 = 0 := by decide +kernel
theorem lm_169_94 : mLvm 169 94 = 251 := by decide +kernel
theorem lm_169_98 : mLvm 169 98 = 251 := by decide +kernel
theorem lm_169_106 : mLvm 169 106 = 763 := by decide +kernel
theorem lm_169_114 : mLvm 169 114 = 2811 := by decide +kernel
theorem lm_169_122 : mLvm 169 122 = 6907 := by decide +kernel
theorem lm_169_143 : mLvm 169 143 = 523003 := by decide +kernel
theorem lm_169_153 : mLvm 169 153 = 1047291 := by decide +kernel
theorem lm_169_158 : mLvm 169 158 = 4193019 := by decide +kernel
theorem lm_169_165 : mLvm 169 165 = 4193019 := by decide +kernel
theorem lm_169_172 : mLvm 169 172 = 4193019 := by decide +kernel
theorem lm_169_176 : mLvm 169 176 = 4193019 := by decide +kernel
theorem lm_169_180 : mLvm 169 180 = 4193019 := by decide +kernel
theorem lm_169_181 : mLvm 169 181 = 4193019 := by decide +kernel
theorem lm_169_190 : mLvm 169 190 = 8370939 := by decide +kernel
theorem lm_169_194 : mLvm 169 194 = 8370939 := by decide +kernel
theorem lm_169_195 : mLvm 169 195 = 8370939 := by decide +kernel
theorem lm_169_208 : mLvm 169 208 = 8354555 := by decide +kernel
theorem lm_169_221 : mLvm 169 221 = 8321787 := by decide +kernel
theorem lm_169_233 : mLvm 169 233 = 8256251 := by decide +kernel
theorem lm_169_247 : mLvm 169 247 = 8125179 := by decide +kernel
theorem lm_169_258 : mLvm 169 258 = 8387323 := by decide +kernel
theorem lm_169_261 : mLvm 169 261 = 8387323 := by decide +kernel
theorem lm_169_268 : mLvm 169 268 = 8387323 := by decide +kernel
theorem lm_169_271 : mLvm 169 271 = 8387323 := by decide +kernel
theorem lm_169_278 : mLvm 169 278 = 8387323 := by decide +kernel
theorem lm_169_282 : mLvm 169 282 = 8387323 := by decide +kernel
theorem lm_169_287 : mLvm 169 287 = 8387323 := by decide +kernel
theorem lm_169_294 : mLvm 169 294 = 8387323 := by decide +kernel
theorem lm_169_298 : mLvm 169 298 = 8387323 := by decide +kernel
theorem lm_169_305 : mLvm 169 305 = 8387323 := by decide +kernel
theorem lm_169_308 : mLvm 169 308 = 8387323 := by decide +kernel
theorem lm_169_315 : mLvm 169 315 = 8387323 := by decide +kernel
theorem lm_169_319 : mLvm 169 319 = 0 := by decide +kernel
theorem lm_169_321 : mLvm 169 321 = 8387323 := by decide +kernel
theorem lm_169_324 : mLvm 169 324 = 16775931 := by decide +kernel
theorem lm_169_331 : mLvm 169 331 = 16775931 := by decide +kernel
theorem lm_169_339 : mLvm 169 339 = 16775931 := by decide +kernel
theorem lm_169_347 : mLvm 169 347 = 16775931 := by decide +kernel
theorem lm_169_350 : mLvm 169 350 = 16775931 := by decide +kernel
theorem lm_169_353 : mLvm 169 353 = 16775931 := by decide +kernel
theorem lm_169_360 : mLvm 169 360 = 16775931 := by decide +kernel
theorem lm_169_364 : mLvm 169 364 = 16775931 := by decide +kernel
theorem lm_169_368 : mLvm 169 368 = 16775931 := by decide +kernel
theorem lm_169_369 : mLvm 169 369 = 16775931 := by decide +kernel
theorem lm_169_376 : mLvm 169 376 = 33553147 := by decide +kernel
theorem lm_169_381 : mLvm 169 381 = 33553147 := by decide +kernel
theorem lm_169_388 : mLvm 169 388 = 16775931 := by decide +kernel
theorem lm_169_395 : mLvm 169 395 = 16775931 := by decide +kernel
theorem lm_169_402 : mLvm 169 402 = 16775931 := by decide +kernel
theorem lm_169_405 : mLvm 169 405 = 16775931 := by decide +kernel
theorem lm_169_412 : mLvm 169 412 = 16775931 := by decide +kernel
theorem lm_169_419 : mLvm 169 419 = 16775931 := by decide +kernel
theorem lm_169_422 : mLvm 169 422 = 16775931 := by decide +kernel
theorem lm_169_429 : mLvm 169 429 = 0 := by decide +kernel
theorem lm_169_431 : mLvm 169 431 = 16775931 := by decide +kernel
theorem lm_169_437 : mLvm 169 437 = 4193019 := by decide +kernel
theorem lm_169_440 : mLvm 169 440 = 12581627 := by decide +kernel
theorem lm_169_447 : mLvm 169 447 = 12581627 := by decide +kernel
theorem lm_169_461 : mLvm 169 461 = 12581627 := by decide +kernel
theorem lm_169_463 : mLvm 169 463 = 12581627 := by decide +kernel
theorem lm_169_469 : mLvm 169 469 = 4193019 := by decide +kernel
theorem lm_169_472 : mLvm 169 472 = 12581627 := by decide +kernel
theorem lm_169_479 : mLvm 169 479 = 12581627 := by decide +kernel
theorem lm_169_494 : mLvm 169 494 = 12581627 := by decide +kernel
theorem lm_169_495 : mLvm 169 495 = 12581627 := by decide +kernel
theorem lm_169_501 : mLvm 169 501 = 4193019 := by decide +kernel
theorem lm_169_507 : mLvm 169 507 = 2095867 := by decide +kernel
theorem lm_169_516 : mLvm 169 516 = 16775931 := by decide +kernel
theorem lm_169_523 : mLvm 169 523 = 16775931 := by decide +kernel
theorem lm_169_532 : mLvm 169 532 = 14678779 := by decide +kernel
theorem lm_169_544 : mLvm 169 544 = 12581627 := by decide +kernel
theorem lm_169_554 : mLvm 169 554 = 16775931 := by decide +kernel
theorem lm_169_561 : mLvm 169 561 = 16775931 := by decide +kernel
theorem lm_169_564 : mLvm 169 564 = 0 := by decide +kernel
theorem lm_169_566 : mLvm 169 566 = 16775931 := by decide +kernel
theorem lm_169_572 : mLvm 169 572 = 8387323 := by decide +kernel
theorem lm_169_580 : mLvm 169 580 = 8370939 := by decide +kernel
theorem lm_169_583 : mLvm 169 583 = 8370939 := by decide +kernel
theorem lm_169_591 : mLvm 169 591 = 8370939 := by decide +kernel
theorem lm_169_594 : mLvm 169 594 = 8370939 := by decide +kernel
theorem lm_169_602 : mLvm 169 602 = 8370939 := by decide +kernel
theorem lm_169_605 : mLvm 169 605 = 8370939 := by decide +kernel
theorem lm_169_613 : mLvm 169 613 = 8239867 := by decide +kernel
theorem lm_169_616 : mLvm 169 616 = 8239867 := by decide +kernel
theorem lm_169_627 : mLvm 169 627 = 7977723 := by decide +kernel
theorem lm_169_637 : mLvm 169 637 = 7912187 := by decide +kernel
theorem lm_169_644 : mLvm 169 644 = 3717883 := by decide +kernel
theorem lm_169_649 : mLvm 169 649 = 3717883 := by decide +kernel
theorem lm_169_657 : mLvm 169 657 = 1620731 := by decide +kernel
theorem lm_169_661 : mLvm 169 661 = 1620731 := by decide +kernel
theorem lm_169_667 : mLvm 169 667 = 1620731 := by decide +kernel
theorem lm_169_672 : mLvm 169 672 = 1587963 := by decide +kernel
theorem lm_169_678 : mLvm 169 678 = 1587963 := by decide +kernel
theorem lm_169_683 : mLvm 169 683 = 0 := by decide +kernel
theorem lm_169_685 : mLvm 169 685 = 1587963 := by decide +kernel
theorem lm_169_690 : mLvm 169 690 = 1587963 := by decide +kernel
theorem lm_169_696 : mLvm 169 696 = 1587963 := by decide +kernel
theorem lm_169_702 : mLvm 169 702 = 1587963 := by decide +kernel
theorem lm_169_706 : mLvm 169 706 = 1587963 := by decide +kernel
theorem lm_169_710 : mLvm 169 710 = 0 := by decide +kernel
theorem lm_169_713 : mLvm 169 713 = 1587963 := by decide +kernel
theorem lm_169_720 : mLvm 169 720 = 1587963 := by decide +kernel
theorem lm_169_724 : mLvm 169 724 = 1587963 := by decide +kernel
theorem lm_169_729 : mLvm 169 729 = 1587963 := by decide +kernel
theorem lm_169_733 : mLvm 169 733 = 1587963 := by decide +kernel
theorem lm_169_736 : mLvm 169 736 = 0 := by decide +kernel
theorem lm_169_738 : mLvm 169 738 = 1587963 := by decide +kernel
theorem lm_169_742 : mLvm 169 742 = 1587963 := by decide +kernel
theorem lm_169_748 : mLvm 169 748 = 9976571 := by decide +kernel
theorem lm_169_753 : mLvm 169 753 = 60308219 := by decide +kernel
theorem lm_169_760 : mLvm 169 760 = 60308219 := by decide +kernel
theorem lm_169_770 : mLvm 169 770 = 60308219 := by decide +kernel
theorem lm_169_771 : mLvm 169 771 = 60308219 := by decide +kernel
theorem lm_169_779 : mLvm 169 779 = 60308219 := by decide +kernel
theorem lm_169_783 : mLvm 169 783 = 60308219 := by decide +kernel
theorem lm_169_784 : mLvm 169 784 = 60308219 := by decide +kernel
theorem lm_169_791 : mLvm 169 791 = 60308219 := by decide +kernel
theorem lm_169_794 : mLvm 169 794 = 60308219 := by decide +kernel
theorem lm_169_798 : mLvm 169 798 = 60308219 := by decide +kernel
theorem lm_169_799 : mLvm 169 799 = 60308219 := by decide +kernel
theorem lm_169_802 : mLvm 169 802 = 0 := by decide +kernel
theorem lm_169_804 : mLvm 169 804 = 60308219 := by decide +kernel
theorem lm_169_810 : mLvm 169 810 = 26753787 := by decide +kernel
theorem lm_169_817 : mLvm 169 817 = 26753787 := by decide +kernel
theorem lm_169_823 : mLvm 169 823 = 60308219 := by decide +kernel
theorem lm_169_829 : mLvm 169 829 = 0 := by decide +kernel
theorem lm_169_831 : mLvm 169 831 = 60308219 := by decide +kernel
theorem lm_169_836 : mLvm 169 836 = 60308219 := by decide +kernel
theorem lm_169_840 : mLvm 169 840 = 60308219 := by decide +kernel
theorem lm_169_847 : mLvm 169 847 = 60308219 := by decide +kernel
theorem lm_169_854 : mLvm 169 854 = 127417083 := by decide +kernel
theorem lm_169_861 : mLvm 169 861 = 261634811 := by decide +kernel
theorem lm_169_866 : mLvm 169 866 = 261634811 := by decide +kernel
theorem lm_169_873 : mLvm 169 873 = 261634811 := by decide +kernel
theorem lm_169_877 : mLvm 169 877 = 261634811 := by decide +kernel
theorem lm_169_878 : mLvm 169 878 = 261634811 := by decide +kernel
theorem lm_169_881 : mLvm 169 881 = 261634811 := by decide +kernel
theorem lm_169_887 : mLvm 169 887 = 261634811 := by decide +kernel
theorem lm_169_892 : mLvm 169 892 = 228080379 := by decide +kernel
theorem lm_169_897 : mLvm 169 897 = 228080379 := by decide +kernel
theorem lm_169_901 : mLvm 169 901 = 228080379 := by decide +kernel
theorem lm_169_907 : mLvm 169 907 = 0 := by decide +kernel
theorem lm_169_909 : mLvm 169 909 = 228079867 := by decide +kernel
theorem lm_169_912 : mLvm 169 912 = 496515323 := by decide +kernel
theorem lm_169_919 : mLvm 169 919 = 496515323 := by decide +kernel
theorem lm_169_925 : mLvm 169 925 = 2107128059 := by decide +kernel
theorem lm_169_932 : mLvm 169 932 = 2107128059 := by decide +kernel
theorem lm_169_942 : mLvm 169 942 = 1570257147 := by decide +kernel
theorem lm_169_951 : mLvm 169 951 = 1033386235 := by decide +kernel
theorem lm_169_958 : mLvm 169 958 = 1033386235 := by decide +kernel
theorem lm_169_963 : mLvm 169 963 = 1033386235 := by decide +kernel
theorem lm_169_970 : mLvm 169 970 = 1033386235 := by decide +kernel
theorem lm_169_973 : mLvm 169 973 = 1033386235 := by decide +kernel
theorem lm_169_974 : mLvm 169 974 = 1033386235 := by decide +kernel
theorem lm_169_986 : mLvm 169 986 = 2107128059 := by decide +kernel
theorem lm_169_999 : mLvm 169 999 = 0 := by decide +kernel
theorem lm_169_1001 : mLvm 169 1001 = 496515323 := by decide +kernel
theorem lm_169_1007 : mLvm 169 1007 = 496515323 := by decide +kernel
theorem lm_169_1015 : mLvm 169 1015 = 496515323 := by decide +kernel
theorem lm_169_1021 : mLvm 169 1021 = 496515323 := by decide +kernel
theorem lm_169_1031 : mLvm 169 1031 = 0 := by decide +kernel
theorem lm_169_1033 : mLvm 169 1033 = 496515323 := by decide +kernel
theorem lm_169_1039 : mLvm 169 1039 = 496515323 := by decide +kernel
theorem lm_169_1048 : mLvm 169 1048 = 496515323 := by decide +kernel
theorem lm_169_1055 : mLvm 169 1055 = 496515323 := by decide +kernel
theorem lm_169_1058 : mLvm 169 1058 = 0 := by decide +kernel
theorem lm_169_1060 : mLvm 169 1060 = 496515323 := by decide +kernel
theorem lm_169_1063 : mLvm 169 1063 = 2643998971 := by decide +kernel
theorem lm_169_1070 : mLvm 169 1070 = 2643998971 := by decide +kernel
theorem lm_169_1078 : mLvm 169 1078 = 2643998971 := by decide +kernel
theorem lm_169_1089 : mLvm 169 1089 = 2643998971 := by decide +kernel
theorem lm_169_1096 : mLvm 169 1096 = 2643998971 := by decide +kernel
theorem lm_169_1103 : mLvm 169 1103 = 0 := by decide +kernel
theorem lm_169_1105 : mLvm 169 1105 = 2643998971 := by decide +kernel
theorem lm_169_1111 : mLvm 169 1111 = 496515323 := by decide +kernel
theorem lm_169_1117 : mLvm 169 1117 = 209721595 := by decide +kernel
theorem lm_169_1122 : mLvm 169 1122 = 209721595 := by decide +kernel
theorem lm_169_1129 : mLvm 169 1129 = 209717499 := by decide +kernel
theorem lm_169_1134 : mLvm 169 1134 = 0 := by decide +kernel
theorem lm_169_1136 : mLvm 169 1136 = 142608635 := by decide +kernel
theorem lm_169_1140 : mLvm 169 1140 = 142608635 := by decide +kernel
theorem lm_169_1145 : mLvm 169 1145 = 0 := by decide +kernel
theorem lm_169_1147 : mLvm 169 1147 = 134220027 := by decide +kernel
theorem lm_169_1153 : mLvm 169 1153 = 2299 := by decide +kernel
theorem lm_169_1159 : mLvm 169 1159 = 2299 := by decide +kernel
theorem lm_169_1164 : mLvm 169 1164 = 251 := by decide +kernel
theorem lm_169_1170 : mLvm 169 1170 = 251 := by decide +kernel
theorem lm_169_1174 : mLvm 169 1174 = 0 := by decide +kernel
theorem lm_169_1176 : mLvm 169 1176 = 251 := by decide +kernel
theorem lm_169_1179 : mLvm 169 1179 = 268435707 := by decide +kernel
theorem lm_169_1186 : mLvm 169 1186 = 268435707 := by decide +kernel
theorem lm_169_1193 : mLvm 169 1193 = 268435707 := by decide +kernel
theorem lm_169_1196 : mLvm 169 1196 = 0 := by decide +kernel
theorem lm_169_1198 : mLvm 169 1198 = 268435707 := by decide +kernel
theorem lm_169_1204 : mLvm 169 1204 = 251 := by decide +kernel
theorem lm_169_1210 : mLvm 169 1210 = 10 := by decide +kernel
theorem lm_169_1215 : mLvm 169 1215 = 0 := by decide +kernel
theorem b_169_0 {d : Nat} {a0 : Nat} {w : MW} : mX d 169 0 [.ref a0, mJ, mJ, mJ, mJ, mJ, mJ, mJ, mJ, mJ, mJ, mJ, mJ, mJ, mJ, mJ, mJ, mJ, mJ, mJ, mJ, mJ, mJ, mJ, mJ, mJ, mJ, mJ, mJ, mJ, mJ, mJ] [] w = mX d 169 3 [.ref a0, mJ, mJ, mJ, mJ, mJ, mJ, mJ, mJ, mJ, mJ, mJ, mJ, mJ, mJ, mJ, mJ, mJ, mJ, mJ, mJ, mJ, mJ, mJ, mJ, mJ, mJ, mJ, mJ, mJ, mJ, mJ] [.ref (mSz w)] (wN w 9 0 (mNf 9)) := by
  refine Eq.trans (X_new f_169_0 (Nat.le_of_ble_eq_true rfl)) ?_
  exact mX_maskK lm_169_3 rfl
theorem e_169 {d : Nat} {a0 : Nat} {w : MW} : mK d 169 [.ref a0] w = mX d 169 0 [.ref a0, mJ, mJ, mJ, mJ, mJ, mJ, mJ, mJ, mJ, mJ, mJ, mJ, mJ, mJ, mJ, mJ, mJ, mJ, mJ, mJ, mJ, mJ, mJ, mJ, mJ, mJ, mJ, mJ, mJ, mJ, mJ] [] w := rfl
theorem b_169_3 {d : Nat} {a0 : Nat} {b0 : Nat} {w : MW} (h0 : mE ≤ b0) : mX (d + 1) 169 3 [.ref a0, mJ, mJ, mJ, mJ, mJ, mJ, mJ, mJ, mJ, mJ, mJ, mJ, mJ, mJ, mJ, mJ, mJ, mJ, mJ, mJ, mJ, mJ, mJ, mJ, mJ, mJ, mJ, mJ, mJ, mJ, mJ] [.ref b0] w = mThen (mK d 95 [.ref b0] w) (fun v w9 => mX (d + 1) 169 7 [.ref a0, mJ, mJ, mJ, mJ, mJ, mJ, mJ, mJ, mJ, mJ, mJ, mJ, mJ, mJ, mJ, mJ, mJ, mJ, mJ, mJ, mJ, mJ, mJ, mJ, mJ, mJ, mJ, mJ, mJ, mJ, mJ] (v.toList ++ [.ref b0]) w9) := by
  refine Eq.trans (X_dup f_169_3 rfl) ?_
  refine Eq.trans (X_call f_169_4 (by decide) rfl rfl rfl rfl rfl rfl (Nat.le_of_ble_eq_true rfl) (Nat.le_of_ble_eq_true rfl) (decide_eq_true h0) (Nat.le_of_ble_eq_true rfl)) ?_
  exact mThen_eq fun v w9 => mX_maskK lm_169_7 rfl
theorem b_169_7 {d : Nat} {a0 : Nat} {b0 : Nat} {w : MW} : mX d 169 7 [.ref a0, mJ, mJ, mJ, mJ, mJ, mJ, mJ, mJ, mJ, mJ, mJ, mJ, mJ, mJ, mJ, mJ, mJ, mJ, mJ, mJ, mJ, mJ, mJ, mJ, mJ, mJ, mJ, mJ, mJ, mJ, mJ] [.ref b0] w = mX d 169 11 [.ref a0, .ref b0, mJ, mJ, mJ, mJ, mJ, mJ, mJ, mJ, mJ, mJ, mJ, mJ, mJ, mJ, mJ, mJ, mJ, mJ, mJ, mJ, mJ, mJ, mJ, mJ, mJ, mJ, mJ, mJ, mJ, mJ] [.ref (mSz w)] (wN w 12 0 (mNf 12)) := by
  refine Eq.trans (X_astore_n (L' := [.ref a0, .ref b0, mJ, mJ, mJ, mJ, mJ, mJ, mJ, mJ, mJ, mJ, mJ, mJ, mJ, mJ, mJ, mJ, mJ, mJ, mJ, mJ, mJ, mJ, mJ, mJ, mJ, mJ, mJ, mJ, mJ, mJ]) f_169_7 (Nat.le_of_ble_eq_true rfl) rfl) ?_
  refine Eq.trans (X_new f_169_8 (Nat.le_of_ble_eq_true rfl)) ?_
  exact mX_maskK lm_169_11 rfl
theorem b_169_11 {d : Nat} {a0 : Nat} {a1 : Nat} {b0 : Nat} {w : MW} (h0 : mE ≤ b0) : mX (d + 1) 169 11 [.ref a0, .ref a1, mJ, mJ, mJ, mJ, mJ, mJ, mJ, mJ, mJ, mJ, mJ, mJ, mJ, mJ, mJ, mJ, mJ, mJ, mJ, mJ, mJ, mJ, mJ, mJ, mJ, mJ, mJ, mJ, mJ, mJ] [.ref b0] w = mThen (mK d 158 [.ref b0] w) (fun v w9 => mX (d + 1) 169 15 [.ref a0, .ref a1, mJ, mJ, mJ, mJ, mJ, mJ, mJ, mJ, mJ, mJ, mJ, mJ, mJ, mJ, mJ, mJ, mJ, mJ, mJ, mJ, mJ, mJ, mJ, mJ, mJ, mJ, mJ, mJ, mJ, mJ] (v.toList ++ [.ref b0]) w9) := by
  refine Eq.trans (X_dup f_169_11 rfl) ?_
  refine Eq.trans (X_call f_169_12 (by decide) rfl rfl rfl rfl rfl rfl (Nat.le_of_ble_eq_true rfl) (Nat.le_of_ble_eq_true rfl) (decide_eq_true h0) (Nat.le_of_ble_eq_true rfl)) ?_
  exact mThen_eq fun v w9 => mX_maskK lm_169_15 rfl
theorem b_169_15 {d : Nat} {a0 : Nat} {a1 : Nat} {b0 : Nat} {w : MW} : mX (d + 1) 169 15 [.ref a0, .ref a1, mJ, mJ, mJ, mJ, mJ, mJ, mJ, mJ, mJ, mJ, mJ, mJ, mJ, mJ, mJ, mJ, mJ, mJ, mJ, mJ, mJ, mJ, mJ, mJ, mJ, mJ, mJ, mJ, mJ, mJ] [.ref b0] w = mThen (mK d 167 [.ref a0, .ref b0] w) (fun v w9 => mX (d + 1) 169 21 [.ref a0, .ref a1, .ref b0, mJ, mJ, mJ, mJ, mJ, mJ, mJ, mJ, mJ, mJ, mJ, mJ, mJ, mJ, mJ, mJ, mJ, mJ, mJ, mJ, mJ, mJ, mJ, mJ, mJ, mJ, mJ, mJ, mJ] (v.toList ++ []) w9) := by
  refine Eq.trans (X_astore_n (L' := [.ref a0, .ref a1, .ref b0, mJ, mJ, mJ, mJ, mJ, mJ, mJ, mJ, mJ, mJ, mJ, mJ, mJ, mJ, mJ, mJ, mJ, mJ, mJ, mJ, mJ, mJ, mJ, mJ, mJ, mJ, mJ, mJ, mJ]) f_169_15 (Nat.le_of_ble_eq_true rfl) rfl) ?_
  refine Eq.trans (X_st f_169_16 rfl rfl) ?_
  refine Eq.trans (X_st f_169_17 rfl rfl) ?_
  refine Eq.trans (X_call f_169_18 (by decide) rfl rfl rfl rfl rfl rfl (Nat.le_of_ble_eq_true rfl) (Nat.le_of_ble_eq_true rfl) rfl (Nat.le_of_ble_eq_true rfl)) ?_
  exact mThen_eq fun v w9 => mX_maskK lm_169_21 rfl
theorem b_169_21 {d : Nat} {a0 : Nat} {a1 : Nat} {a2 : Nat} {b0 : Nat} {w : MW} (h0 : mTg w a2 = 12) : mX (d + 1) 169 21 [.ref a0, .ref a1, .ref a2, mJ, mJ, mJ, mJ, mJ, mJ, mJ, mJ, mJ, mJ, mJ, mJ, mJ, mJ, mJ, mJ, mJ, mJ, mJ, mJ, mJ, mJ, mJ, mJ, mJ, mJ, mJ, mJ, mJ] [.ref b0] w = mThen (mK d 161 [.ref a2] w) (fun v w9 => mX (d + 1) 169 27 [.ref a0, .ref a1, mJ, .ref b0, mJ, mJ, mJ, mJ, mJ, mJ, mJ, mJ, mJ, mJ, mJ, mJ, mJ, mJ, mJ, mJ, mJ, mJ, mJ, mJ, mJ, mJ, mJ, mJ, mJ, mJ, mJ, mJ] (v.toList ++ [.ref a1]) w9) := by
  refine Eq.trans (X_astore_n (L' := [.ref a0, .ref a1, .ref a2, .ref b0, mJ, mJ, mJ, mJ, mJ, mJ, mJ, mJ, mJ, mJ, mJ, mJ, mJ, mJ, mJ, mJ, mJ, mJ, mJ, mJ, mJ, mJ, mJ, mJ, mJ, mJ, mJ, mJ]) f_169_21 (Nat.le_of_ble_eq_true rfl) rfl) ?_
  refine Eq.trans (X_st f_169_22 rfl rfl) ?_
  refine Eq.trans (X_st f_169_23 rfl rfl) ?_
  refine Eq.trans (X_call f_169_24 (by decide) rfl rfl rfl rfl rfl rfl (Nat.le_of_ble_eq_true rfl) (Nat.le_of_ble_eq_true rfl) (decide_eq_true h0) (Nat.le_of_ble_eq_true rfl)) ?_
  exact mThen_eq fun v w9 => mX_maskK lm_169_27 rfl
theorem b_169_27 {d : Nat} {a0 : Nat} {a1 : Nat} {a3 : Nat} {b0 : Nat} {b1 : Nat} {w : MW} : mX (d + 1) 169 27 [.ref a0, .ref a1, mJ, .ref a3, mJ, mJ, mJ, mJ, mJ, mJ, mJ, mJ, mJ, mJ, mJ, mJ, mJ, mJ, mJ, mJ, mJ, mJ, mJ, mJ, mJ, mJ, mJ, mJ, mJ, mJ, mJ, mJ] [.ref b0, .ref b1] w = mThen (mK d 165 [.ref b1, .ref b0] w) (fun v w9 => mX (d + 1) 169 30 [.ref a0, .ref a1, mJ, .ref a3, mJ, mJ, mJ, mJ, mJ, mJ, mJ, mJ, mJ, mJ, mJ, mJ, mJ, mJ, mJ, mJ, mJ, mJ, mJ, mJ, mJ, mJ, mJ, mJ, mJ, mJ, mJ, mJ] (v.toList ++ []) w9) := by
  refine Eq.trans (X_call f_169_27 (by decide) rfl rfl rfl rfl rfl rfl (Nat.le_of_ble_eq_true rfl) (Nat.le_of_ble_eq_true rfl) rfl (Nat.le_of_ble_eq_true rfl)) ?_
  exact mThen_eq fun v w9 => mX_maskK lm_169_30 rfl
theorem b_169_30 {d : Nat} {a0 : Nat} {a1 : Nat} {a3 : Nat} {y0 : Int32} {w : MW} : mX d 169 30 [.ref a0, .ref a1, mJ, .ref a3, mJ, mJ, mJ, mJ, mJ, mJ, mJ, mJ, mJ, mJ, mJ, mJ, mJ, mJ, mJ, mJ, mJ, mJ, mJ, mJ, mJ, mJ, mJ, mJ, mJ, mJ, mJ, mJ] [.int y0] w = (if y0 = nI 0 then mX d 169 35 [.ref a0, .ref a1, mJ, .ref a3, mJ, mJ, mJ, mJ, mJ, mJ, mJ, mJ, mJ, mJ, mJ, mJ, mJ, mJ, mJ, mJ, mJ, mJ, mJ, mJ, mJ, mJ, mJ, mJ, mJ, mJ, mJ, mJ] [] w else mX d 169 33 [mJ, mJ, mJ, mJ, mJ, mJ, mJ, mJ, mJ, mJ, mJ, mJ, mJ, mJ, mJ, mJ, mJ, mJ, mJ, mJ, mJ, mJ, mJ, mJ, mJ, mJ, mJ, mJ, mJ, mJ, mJ, mJ] [] w) := by
  refine Eq.trans (X_br f_169_30 rfl rfl) ?_
  exact mIte_eq (mX_maskK lm_169_35 rfl) (mX_maskK lm_169_33 rfl)
theorem b_169_33 {d : Nat} {w : MW} : mX d 169 33 [mJ, mJ, mJ, mJ, mJ, mJ, mJ, mJ, mJ, mJ, mJ, mJ, mJ, mJ, mJ, mJ, mJ, mJ, mJ, mJ, mJ, mJ, mJ, mJ, mJ, mJ, mJ, mJ, mJ, mJ, mJ, mJ] [] w = some (.inl (some (.int (nI 0))), w) := by
  refine Eq.trans (X_iconst f_169_33 kc_i_0) ?_
  exact X_ireturn f_169_34 rfl
theorem b_169_35 {d : Nat} {a0 : Nat} {a1 : Nat} {a3 : Nat} {w : MW} (h0 : mTg w a1 = 9) : mX (d + 1) 169 35 [.ref a0, .ref a1, mJ, .ref a3, mJ, mJ, mJ, mJ, mJ, mJ, mJ, mJ, mJ, mJ, mJ, mJ, mJ, mJ, mJ, mJ, mJ, mJ, mJ, mJ, mJ, mJ, mJ, mJ, mJ, mJ, mJ, mJ] [] w = mThen (mK d 99 [.ref a1, .int (nI 4)] w) (fun v w9 => mX (d + 1) 169 40 [.ref a0, .ref a1, mJ, .ref a3, mJ, mJ, mJ, mJ, mJ, mJ, mJ, mJ, mJ, mJ, mJ, mJ, mJ, mJ, mJ, mJ, mJ, mJ, mJ, mJ, mJ, mJ, mJ, mJ, mJ, mJ, mJ, mJ] (v.toList ++ []) w9) := by
  refine Eq.trans (X_st f_169_35 rfl rfl) ?_
  refine Eq.trans (X_iconst f_169_36 kc_i_4) ?_
  refine Eq.trans (X_call f_169_37 (by decide) rfl rfl rfl rfl rfl rfl (Nat.le_of_ble_eq_true rfl) (Nat.le_of_ble_eq_true rfl) (decide_eq_true h0) (Nat.le_of_ble_eq_true rfl)) ?_
  exact mThen_eq fun v w9 => mX_maskK lm_169_40 rfl
theorem b_169_40 {d : Nat} {a0 : Nat} {a1 : Nat} {a3 : Nat} {y0 : Int32} {w : MW} (h0 : mTg w a1 = 9) : mX (d + 1) 169 40 [.ref a0, .ref a1, mJ, .ref a3, mJ, mJ, mJ, mJ, mJ, mJ, mJ, mJ, mJ, mJ, mJ, mJ, mJ, mJ, mJ, mJ, mJ, mJ, mJ, mJ, mJ, mJ, mJ, mJ, mJ, mJ, mJ, mJ] [.int y0] w = mThen (mK d 99 [.ref a1, .int (nI 3)] w) (fun v w9 => mX (d + 1) 169 47 [.ref a0, .ref a1, mJ, .ref a3, .int y0, mJ, mJ, mJ, mJ, mJ, mJ, mJ, mJ, mJ, mJ, mJ, mJ, mJ, mJ, mJ, mJ, mJ, mJ, mJ, mJ, mJ, mJ, mJ, mJ, mJ, mJ, mJ] (v.toList ++ []) w9) := by
  refine Eq.trans (X_istore (L' := [.ref a0, .ref a1, mJ, .ref a3, .int y0, mJ, mJ, mJ, mJ, mJ, mJ, mJ, mJ, mJ, mJ, mJ, mJ, mJ, mJ, mJ, mJ, mJ, mJ, mJ, mJ, mJ, mJ, mJ, mJ, mJ, mJ, mJ]) f_169_40 (Nat.le_of_ble_eq_true rfl) rfl) ?_
  refine Eq.trans (X_st f_169_42 rfl rfl) ?_
  refine Eq.trans (X_iconst f_169_43 kc_i_3) ?_
  refine Eq.trans (X_call f_169_44 (by decide) rfl rfl rfl rfl rfl rfl (Nat.le_of_ble_eq_true rfl) (Nat.le_of_ble_eq_true rfl) (decide_eq_true h0) (Nat.le_of_ble_eq_true rfl)) ?_
  exact mThen_eq fun v w9 => mX_maskK lm_169_47 rfl
theorem b_169_47 {d : Nat} {a0 : Nat} {a1 : Nat} {a3 : Nat} {x4 : Int32} {y0 : Int32} {w : MW} (h0 : mTg w a1 = 9) : mX (d + 1) 169 47 [.ref a0, .ref a1, mJ, .ref a3, .int x4, mJ, mJ, mJ, mJ, mJ, mJ, mJ, mJ, mJ, mJ, mJ, mJ, mJ, mJ, mJ, mJ, mJ, mJ, mJ, mJ, mJ, mJ, mJ, mJ, mJ, mJ, mJ] [.int y0] w = mThen (mK d 99 [.ref a1, .int (nI 2)] w) (fun v w9 => mX (d + 1) 169 54 [.ref a0, .ref a1, mJ, .ref a3, .int x4, .int y0, mJ, mJ, mJ, mJ, mJ, mJ, mJ, mJ, mJ, mJ, mJ, mJ, mJ, mJ, mJ, mJ, mJ, mJ, mJ, mJ, mJ, mJ, mJ, mJ, mJ, mJ] (v.toList ++ []) w9) := by
  refine Eq.trans (X_istore (L' := [.ref a0, .ref a1, mJ, .ref a3, .int x4, .int y0, mJ, mJ, mJ, mJ, mJ, mJ, mJ, mJ, mJ, mJ, mJ, mJ, mJ, mJ, mJ, mJ, mJ, mJ, mJ, mJ, mJ, mJ, mJ, mJ, mJ, mJ]) f_169_47 (Nat.le_of_ble_eq_true rfl) rfl) ?_
  refine Eq.trans (X_st f_169_49 rfl rfl) ?_
  refine Eq.trans (X_iconst f_169_50 kc_i_2) ?_
  refine Eq.trans (X_call f_169_51 (by decide) rfl rfl rfl rfl rfl rfl (Nat.le_of_ble_eq_true rfl) (Nat.le_of_ble_eq_true rfl) (decide_eq_true h0) (Nat.le_of_ble_eq_true rfl)) ?_
  exact mThen_eq fun v w9 => mX_maskK lm_169_54 rfl
theorem b_169_54 {d : Nat} {a0 : Nat} {a1 : Nat} {a3 : Nat} {x4 : Int32} {x5 : Int32} {y0 : Int32} {w : MW} : mX d 169 54 [.ref a0, .ref a1, mJ, .ref a3, .int x4, .int x5, mJ, mJ, mJ, mJ, mJ, mJ, mJ, mJ, mJ, mJ, mJ, mJ, mJ, mJ, mJ, mJ, mJ, mJ, mJ, mJ, mJ, mJ, mJ, mJ, mJ, mJ] [.int y0] w = mX d 169 59 [.ref a0, .ref a1, mJ, .ref a3, .int x4, .int x5, .int y0, .int (nI 0), mJ, mJ, mJ, mJ, mJ, mJ, mJ, mJ, mJ, mJ, mJ, mJ, mJ, mJ, mJ, mJ, mJ, mJ, mJ, mJ, mJ, mJ, mJ, mJ] [] w := by
  refine Eq.trans (X_istore (L' := [.ref a0, .ref a1, mJ, .ref a3, .int x4, .int x5, .int y0, mJ, mJ, mJ, mJ, mJ, mJ, mJ, mJ, mJ, mJ, mJ, mJ, mJ, mJ, mJ, mJ, mJ, mJ, mJ, mJ, mJ, mJ, mJ, mJ, mJ]) f_169_54 (Nat.le_of_ble_eq_true rfl) rfl) ?_
  refine Eq.trans (X_iconst f_169_56 kc_i_0) ?_
  refine Eq.trans (X_istore (L' := [.ref a0, .ref a1, mJ, .ref a3, .int x4, .int x5, .int y0, .int (nI 0), mJ, mJ, mJ, mJ, mJ, mJ, mJ, mJ, mJ, mJ, mJ, mJ, mJ, mJ, mJ, mJ, mJ, mJ, mJ, mJ, mJ, mJ, mJ, mJ]) f_169_57 (Nat.le_of_ble_eq_true rfl) rfl) ?_
  exact mX_maskK lm_169_59 rfl
theorem b_169_59 {d : Nat} {a0 : Nat} {a1 : Nat} {a3 : Nat} {x4 : Int32} {x5 : Int32} {x6 : Int32} {x7 : Int32} {w : MW} : mX d 169 59 [.ref a0, .ref a1, mJ, .ref a3, .int x4, .int x5, .int x6, .int x7, mJ, mJ, mJ, mJ, mJ, mJ, mJ, mJ, mJ, mJ, mJ, mJ, mJ, mJ, mJ, mJ, mJ, mJ, mJ, mJ, mJ, mJ, mJ, mJ] [] w = (if (nI 16) ≤ x7 then mX d 169 1210 [mJ, .ref a1, mJ, .ref a3, mJ, mJ, mJ, mJ, mJ, mJ, mJ, mJ, mJ, mJ, mJ, mJ, mJ, mJ, mJ, mJ, mJ, mJ, mJ, mJ, mJ, mJ, mJ, mJ, mJ, mJ, mJ, mJ] [] w else mX d 169 66 [.ref a0, .ref a1, mJ, .ref a3, .int x4, .int x5, .int x6, .int x7, mJ, mJ, mJ, mJ, mJ, mJ, mJ, mJ, mJ, mJ, mJ, mJ, mJ, mJ, mJ, mJ, mJ, mJ, mJ, mJ, mJ, mJ, mJ, mJ] [] w) := by
  refine Eq.trans (X_st f_169_59 rfl rfl) ?_
  refine Eq.trans (X_bipush f_169_61 kc_b_16) ?_
  refine Eq.trans (X_br f_169_63 rfl rfl) ?_
  exact mIte_eq (mX_maskK lm_169_1210 rfl) (mX_maskK lm_169_66 rfl)
theorem b_169_66 {d : Nat} {a0 : Nat} {a1 : Nat} {a3 : Nat} {x4 : Int32} {x5 : Int32} {x6 : Int32} {x7 : Int32} {w : MW} : mX (d + 1) 169 66 [.ref a0, .ref a1, mJ, .ref a3, .int x4, .int x5, .int x6, .int x7, mJ, mJ, mJ, mJ, mJ, mJ, mJ, mJ, mJ, mJ, mJ, mJ, mJ, mJ, mJ, mJ, mJ, mJ, mJ, mJ, mJ, mJ, mJ, mJ] [] w = mThen (mK d 164 [.ref a0, .int x7] w) (fun v w9 => mX (d + 1) 169 72 [.ref a0, .ref a1, mJ, .ref a3, .int x4, .int x5, .int x6, .int x7, mJ, mJ, mJ, mJ, mJ, mJ, mJ, mJ, mJ, mJ, mJ, mJ, mJ, mJ, mJ, mJ, mJ, mJ, mJ, mJ, mJ, mJ, mJ, mJ] (v.toList ++ []) w9) := by
  refine Eq.trans (X_st f_169_66 rfl rfl) ?_
  refine Eq.trans (X_st f_169_67 rfl rfl) ?_
  refine Eq.trans (X_call f_169_69 (by decide) rfl rfl rfl rfl rfl rfl (Nat.le_of_ble_eq_true rfl) (Nat.le_of_ble_eq_true rfl) rfl (Nat.le_of_ble_eq_true rfl)) ?_
  exact mThen_eq fun v w9 => mX_maskK lm_169_72 rfl
theorem b_169_72 {d : Nat} {a0 : Nat} {a1 : Nat} {a3 : Nat} {x4 : Int32} {x5 : Int32} {x6 : Int32} {x7 : Int32} {y0 : Int32} {w : MW} : mX (d + 1) 169 72 [.ref a0, .ref a1, mJ, .ref a3, .int x4, .int x5, .int x6, .int x7, mJ, mJ, mJ, mJ, mJ, mJ, mJ, mJ, mJ, mJ, mJ, mJ, mJ, mJ, mJ, mJ, mJ, mJ, mJ, mJ, mJ, mJ, mJ, mJ] [.int y0] w = mThen (mK d 168 [.ref a1, .ref a3, .int ((y0 >>> ((nI 3) &&& 31)) + ((nI 59) * x7))] w) (fun v w9 => mX (d + 1) 169 89 [.ref a0, .ref a1, mJ, .ref a3, .int x4, .int x5, .int x6, .int x7, mJ, mJ, mJ, mJ, mJ, mJ, mJ, mJ, mJ, mJ, mJ, mJ, mJ, mJ, mJ, mJ, mJ, mJ, mJ, mJ, mJ, mJ, mJ, mJ] (v.toList ++ []) w9) := by
  refine Eq.trans (X_iconst f_169_72 kc_i_3) ?_
  refine Eq.trans (X_st f_169_73 rfl rfl) ?_
  refine Eq.trans (X_bipush f_169_74 kc_b_59) ?_
  refine Eq.trans (X_st f_169_76 rfl rfl) ?_
  refine Eq.trans (X_st f_169_78 rfl rfl) ?_
  refine Eq.trans (X_st f_169_79 rfl rfl) ?_
  refine Eq.trans (X_istore (L' := [.ref a0, .ref a1, mJ, .ref a3, .int x4, .int x5, .int x6, .int x7, .int ((y0 >>> ((nI 3) &&& 31)) + ((nI 59) * x7)), mJ, mJ, mJ, mJ, mJ, mJ, mJ, mJ, mJ, mJ, mJ, mJ, mJ, mJ, mJ, mJ, mJ, mJ, mJ, mJ, mJ, mJ, mJ]) f_169_80 (Nat.le_of_ble_eq_true rfl) rfl) ?_
  refine Eq.trans (X_st f_169_82 rfl rfl) ?_
  refine Eq.trans (X_st f_169_83 rfl rfl) ?_
  refine Eq.trans (X_st f_169_84 rfl rfl) ?_
  refine Eq.trans (X_call f_169_86 (by decide) rfl rfl rfl rfl rfl rfl (Nat.le_of_ble_eq_true rfl) (Nat.le_of_ble_eq_true rfl) rfl (Nat.le_of_ble_eq_true rfl)) ?_
  exact mThen_eq fun v w9 => mX_maskK lm_169_89 rfl
theorem b_169_89 {d : Nat} {a0 : Nat} {a1 : Nat} {a3 : Nat} {x4 : Int32} {x5 : Int32} {x6 : Int32} {x7 : Int32} {y0 : Int32} {w : MW} : mX d 169 89 [.ref a0, .ref a1, mJ, .ref a3, .int x4, .int x5, .int x6, .int x7, mJ, mJ, mJ, mJ, mJ, mJ, mJ, mJ, mJ, mJ, mJ, mJ, mJ, mJ, mJ, mJ, mJ, mJ, mJ, mJ, mJ, mJ, mJ, mJ] [.int y0] w = (if ¬ y0 = nI 0 then mX d 169 94 [.ref a0, .ref a1, mJ, .ref a3, .int x4, .int x5, .int x6, .int x7, mJ, mJ, mJ, mJ, mJ, mJ, mJ, mJ, mJ, mJ, mJ, mJ, mJ, mJ, mJ, mJ, mJ, mJ, mJ, mJ, mJ, mJ, mJ, mJ] [] w else mX d 169 92 [mJ, mJ, mJ, mJ, mJ, mJ, mJ, mJ, mJ, mJ, mJ, mJ, mJ, mJ, mJ, mJ, mJ, mJ, mJ, mJ, mJ, mJ, mJ, mJ, mJ, mJ, mJ, mJ, mJ, mJ, mJ, mJ] [] w) := by
  refine Eq.trans (X_br f_169_89 rfl rfl) ?_
  exact mIte_eq (mX_maskK lm_169_94 rfl) (mX_maskK lm_169_92 rfl)
theorem b_169_92 {d : Nat} {w : MW} : mX d 169 92 [mJ, mJ, mJ, mJ, mJ, mJ, mJ, mJ, mJ, mJ, mJ, mJ, mJ, mJ, mJ, mJ, mJ, mJ, mJ, mJ, mJ, mJ, mJ, mJ, mJ, mJ, mJ, mJ, mJ, mJ, mJ, mJ] [] w = some (.inl (some (.int (nI 0))), w) := by
  refine Eq.trans (X_iconst f_169_92 kc_i_0) ?_
  exact X_ireturn f_169_93 rfl
theorem b_169_94 {d : Nat} {a0 : Nat} {a1 : Nat} {a3 : Nat} {x4 : Int32} {x5 : Int32} {x6 : Int32} {x7 : Int32} {w : MW} (h0 : mTg w a1 = 9) : mX (d + 1) 169 94 [.ref a0, .ref a1, mJ, .ref a3, .int x4, .int x5, .int x6, .int x7, mJ, mJ, mJ, mJ, mJ, mJ, mJ, mJ, mJ, mJ, mJ, mJ, mJ, mJ, mJ, mJ, mJ, mJ, mJ, mJ, mJ, mJ, mJ, mJ] [] w = mThen (mK d 117 [.ref a1] w) (fun v w9 => mX (d + 1) 169 98 [.ref a0, .ref a1, mJ, .ref a3, .int x4, .int x5, .int x6, .int x7, mJ, mJ, mJ, mJ, mJ, mJ, mJ, mJ, mJ, mJ, mJ, mJ, mJ, mJ, mJ, mJ, mJ, mJ, mJ, mJ, mJ, mJ, mJ, mJ] (v.toList ++ []) w9) := by
  refine Eq.trans (X_st f_169_94 rfl rfl) ?_
  refine Eq.trans (X_call f_169_95 (by decide) rfl rfl rfl rfl rfl rfl (Nat.le_of_ble_eq_true rfl) (Nat.le_of_ble_eq_true rfl) (decide_eq_true h0) (Nat.le_of_ble_eq_true rfl)) ?_
  exact mThen_eq fun v w9 => mX_maskK lm_169_98 rfl
theorem b_169_98 {d : Nat} {a0 : Nat} {a1 : Nat} {a3 : Nat} {x4 : Int32} {x5 : Int32} {x6 : Int32} {x7 : Int32} {m0 : Int64} {w : MW} (h0 : mTg w a1 = 9) : mX (d + 1) 169 98 [.ref a0, .ref a1, mJ, .ref a3, .int x4, .int x5, .int x6, .int x7, mJ, mJ, mJ, mJ, mJ, mJ, mJ, mJ, mJ, mJ, mJ, mJ, mJ, mJ, mJ, mJ, mJ, mJ, mJ, mJ, mJ, mJ, mJ, mJ] [.long m0] w = mThen (mK d 99 [.ref a1, .int (nI 7)] w) (fun v w9 => mX (d + 1) 169 106 [.ref a0, .ref a1, mJ, .ref a3, .int x4, .int x5, .int x6, .int x7, mJ, .long m0, mJ, mJ, mJ, mJ, mJ, mJ, mJ, mJ, mJ, mJ, mJ, mJ, mJ, mJ, mJ, mJ, mJ, mJ, mJ, mJ, mJ, mJ] (v.toList ++ []) w9) := by
  refine Eq.trans (X_lstore (L' := [.ref a0, .ref a1, mJ, .ref a3, .int x4, .int x5, .int x6, .int x7, mJ, .long m0, mJ, mJ, mJ, mJ, mJ, mJ, mJ, mJ, mJ, mJ, mJ, mJ, mJ, mJ, mJ, mJ, mJ, mJ, mJ, mJ, mJ, mJ]) f_169_98 (Nat.le_of_ble_eq_true rfl) rfl) ?_
  refine Eq.trans (X_st f_169_100 rfl rfl) ?_
  refine Eq.trans (X_bipush f_169_101 kc_b_7) ?_
  refine Eq.trans (X_call f_169_103 (by decide) rfl rfl rfl rfl rfl rfl (Nat.le_of_ble_eq_true rfl) (Nat.le_of_ble_eq_true rfl) (decide_eq_true h0) (Nat.le_of_ble_eq_true rfl)) ?_
  exact mThen_eq fun v w9 => mX_maskK lm_169_106 rfl
theorem b_169_106 {d : Nat} {a0 : Nat} {a1 : Nat} {a3 : Nat} {x4 : Int32} {x5 : Int32} {x6 : Int32} {x7 : Int32} {l9 : Int64} {y0 : Int32} {w : MW} (h0 : mTg w a1 = 9) : mX (d + 1) 169 106 [.ref a0, .ref a1, mJ, .ref a3, .int x4, .int x5, .int x6, .int x7, mJ, .long l9, mJ, mJ, mJ, mJ, mJ, mJ, mJ, mJ, mJ, mJ, mJ, mJ, mJ, mJ, mJ, mJ, mJ, mJ, mJ, mJ, mJ, mJ] [.int y0] w = mThen (mK d 99 [.ref a1, .int (nI 8)] w) (fun v w9 => mX (d + 1) 169 114 [.ref a0, .ref a1, mJ, .ref a3, .int x4, .int x5, .int x6, .int x7, mJ, .long l9, mJ, .int y0, mJ, mJ, mJ, mJ, mJ, mJ, mJ, mJ, mJ, mJ, mJ, mJ, mJ, mJ, mJ, mJ, mJ, mJ, mJ, mJ] (v.toList ++ []) w9) := by
  refine Eq.trans (X_istore (L' := [.ref a0, .ref a1, mJ, .ref a3, .int x4, .int x5, .int x6, .int x7, mJ, .long l9, mJ, .int y0, mJ, mJ, mJ, mJ, mJ, mJ, mJ, mJ, mJ, mJ, mJ, mJ, mJ, mJ, mJ, mJ, mJ, mJ, mJ, mJ]) f_169_106 (Nat.le_of_ble_eq_true rfl) rfl) ?_
  refine Eq.trans (X_st f_169_108 rfl rfl) ?_
  refine Eq.trans (X_bipush f_169_109 kc_b_8) ?_
  refine Eq.trans (X_call f_169_111 (by decide) rfl rfl rfl rfl rfl rfl (Nat.le_of_ble_eq_true rfl) (Nat.le_of_ble_eq_true rfl) (decide_eq_true h0) (Nat.le_of_ble_eq_true rfl)) ?_
  exact mThen_eq fun v w9 => mX_maskK lm_169_114 rfl
theorem b_169_114 {d : Nat} {a0 : Nat} {a1 : Nat} {a3 : Nat} {x4 : Int32} {x5 : Int32} {x6 : Int32} {x7 : Int32} {l9 : Int64} {x11 : Int32} {y0 : Int32} {w : MW} (h0 : mTg w a1 = 9) : mX (d + 1) 169 114 [.ref a0, .ref a1, mJ, .ref a3, .int x4, .int x5, .int x6, .int x7, mJ, .long l9, mJ, .int x11, mJ, mJ, mJ, mJ, mJ, mJ, mJ, mJ, mJ, mJ, mJ, mJ, mJ, mJ, mJ, mJ, mJ, mJ, mJ, mJ] [.int y0] w = mThen (mK d 99 [.ref a1, .int (nI 9)] w) (fun v w9 => mX (d + 1) 169 122 [.ref a0, .ref a1, mJ, .ref a3, .int x4, .int x5, .int x6, .int x7, mJ, .long l9, mJ, .int x11, .int y0, mJ, mJ, mJ, mJ, mJ, mJ, mJ, mJ, mJ, mJ, mJ, mJ, mJ, mJ, mJ, mJ, mJ, mJ, mJ] (v.toList ++ []) w9) := by
  refine Eq.trans (X_istore (L' := [.ref a0, .ref a1, mJ, .ref a3, .int x4, .int x5, .int x6, .int x7, mJ, .long l9, mJ, .int x11, .int y0, mJ, mJ, mJ, mJ, mJ, mJ, mJ, mJ, mJ, mJ, mJ, mJ, mJ, mJ, mJ, mJ, mJ, mJ, mJ]) f_169_114 (Nat.le_of_ble_eq_true rfl) rfl) ?_
  refine Eq.trans (X_st f_169_116 rfl rfl) ?_
  refine Eq.trans (X_bipush f_169_117 kc_b_9) ?_
  refine Eq.trans (X_call f_169_119 (by decide) rfl rfl rfl rfl rfl rfl (Nat.le_of_ble_eq_true rfl) (Nat.le_of_ble_eq_true rfl) (decide_eq_true h0) (Nat.le_of_ble_eq_true rfl)) ?_
  exact mThen_eq fun v w9 => mX_maskK lm_169_122 rfl
theorem b_169_122 {d : Nat} {a0 : Nat} {a1 : Nat} {a3 : Nat} {x4 : Nat} {x5 : Int32} {x6 : Int32} {x7 : Int32} {l9 : Int64} {x11 : Int32} {x12 : Int32} {y0 : Int32} {w : MW} (h0 : x4 < 2147483648) (h1 : x4 ≤ 134217728) : mX d 169 122 [.ref a0, .ref a1, mJ, .ref a3, .int (nI x4), .int x5, .int x6, .int x7, mJ, .long l9, mJ, .int x11, .int x12, mJ, mJ, mJ, mJ, mJ, mJ, mJ, mJ, mJ, mJ, mJ, mJ, mJ, mJ, mJ, mJ, mJ, mJ, mJ] [.int y0] w = mX d 169 143 [.ref a0, .ref a1, mJ, .ref a3, .int (nI x4), .int x5, .int x6, .int x7, mJ, .long l9, mJ, .int x11, .int x12, .int y0, .int (nI 0), .int (nI 0), .int (nI 0), .int (nI 0), .int (nI 0), mJ, mJ, mJ, mJ, mJ, mJ, mJ, mJ, mJ, mJ, mJ, mJ, mJ] [.ref (mSz w)] (wN w 50 x4 x4) := by
  refine Eq.trans (X_istore (L' := [.ref a0, .ref a1, mJ, .ref a3, .int (nI x4), .int x5, .int x6, .int x7, mJ, .long l9, mJ, .int x11, .int x12, .int y0, mJ, mJ, mJ, mJ, mJ, mJ, mJ, mJ, mJ, mJ, mJ, mJ, mJ, mJ, mJ, mJ, mJ, mJ]) f_169_122 (Nat.le_of_ble_eq_true rfl) rfl) ?_
  refine Eq.trans (X_iconst f_169_124 kc_i_0) ?_
  refine Eq.trans (X_istore (L' := [.ref a0, .ref a1, mJ, .ref a3, .int (nI x4), .int x5, .int x6, .int x7, mJ, .long l9, mJ, .int x11, .int x12, .int y0, .int (nI 0), mJ, mJ, mJ, mJ, mJ, mJ, mJ, mJ, mJ, mJ, mJ, mJ, mJ, mJ, mJ, mJ, mJ]) f_169_125 (Nat.le_of_ble_eq_true rfl) rfl) ?_
  refine Eq.trans (X_iconst f_169_127 kc_i_0) ?_
  refine Eq.trans (X_istore (L' := [.ref a0, .ref a1, mJ, .ref a3, .int (nI x4), .int x5, .int x6, .int x7, mJ, .long l9, mJ, .int x11, .int x12, .int y0, .int (nI 0), .int (nI 0), mJ, mJ, mJ, mJ, mJ, mJ, mJ, mJ, mJ, mJ, mJ, mJ, mJ, mJ, mJ, mJ]) f_169_128 (Nat.le_of_ble_eq_true rfl) rfl) ?_
  refine Eq.trans (X_iconst f_169_130 kc_i_0) ?_
  refine Eq.trans (X_istore (L' := [.ref a0, .ref a1, mJ, .ref a3, .int (nI x4), .int x5, .int x6, .int x7, mJ, .long l9, mJ, .int x11, .int x12, .int y0, .int (nI 0), .int (nI 0), .int (nI 0), mJ, mJ, mJ, mJ, mJ, mJ, mJ, mJ, mJ, mJ, mJ, mJ, mJ, mJ, mJ]) f_169_131 (Nat.le_of_ble_eq_true rfl) rfl) ?_
  refine Eq.trans (X_iconst f_169_133 kc_i_0) ?_
  refine Eq.trans (X_istore (L' := [.ref a0, .ref a1, mJ, .ref a3, .int (nI x4), .int x5, .int x6, .int x7, mJ, .long l9, mJ, .int x11, .int x12, .int y0, .int (nI 0), .int (nI 0), .int (nI 0), .int (nI 0), mJ, mJ, mJ, mJ, mJ, mJ, mJ, mJ, mJ, mJ, mJ, mJ, mJ, mJ]) f_169_134 (Nat.le_of_ble_eq_true rfl) rfl) ?_
  refine Eq.trans (X_iconst f_169_136 kc_i_0) ?_
  refine Eq.trans (X_istore (L' := [.ref a0, .ref a1, mJ, .ref a3, .int (nI x4), .int x5, .int x6, .int x7, mJ, .long l9, mJ, .int x11, .int x12, .int y0, .int (nI 0), .int (nI 0), .int (nI 0), .int (nI 0), .int (nI 0), mJ, mJ, mJ, mJ, mJ, mJ, mJ, mJ, mJ, mJ, mJ, mJ, mJ]) f_169_137 (Nat.le_of_ble_eq_true rfl) rfl) ?_
  refine Eq.trans (X_st f_169_139 rfl rfl) ?_
  refine Eq.trans (X_newa f_169_141 (jnn h0) (jcl h0) h1) ?_
  exact mX_maskK lm_169_143 rfl
theorem b_169_143 {d : Nat} {a0 : Nat} {a1 : Nat} {a3 : Nat} {x4 : Nat} {x5 : Nat} {x6 : Int32} {x7 : Int32} {l9 : Int64} {x11 : Int32} {x12 : Int32} {x13 : Int32} {x14 : Int32} {x15 : Int32} {x16 : Int32} {x17 : Int32} {x18 : Int32} {b0 : Nat} {w : MW} (h0 : x5 < 2147483648) (h1 : x4 < 2147483648) (h2 : x5 ≤ 134217728) (h3 : x4 ≤ 134217728) : mX d 169 143 [.ref a0, .ref a1, mJ, .ref a3, .int (nI x4), .int (nI x5), .int x6, .int x7, mJ, .long l9, mJ, .int x11, .int x12, .int x13, .int x14, .int x15, .int x16, .int x17, .int x18, mJ, mJ, mJ, mJ, mJ, mJ, mJ, mJ, mJ, mJ, mJ, mJ, mJ] [.ref b0] w = mX d 169 153 [.ref a0, .ref a1, mJ, .ref a3, .int (nI x4), .int (nI x5), .int x6, .int x7, mJ, .long l9, mJ, .int x11, .int x12, .int x13, .int x14, .int x15, .int x16, .int x17, .int x18, .ref b0, mJ, mJ, mJ, mJ, mJ, mJ, mJ, mJ, mJ, mJ, mJ, mJ] [.ref (mSz w)] (wM w x4 x5) := by
  refine Eq.trans (X_astore (L' := [.ref a0, .ref a1, mJ, .ref a3, .int (nI x4), .int (nI x5), .int x6, .int x7, mJ, .long l9, mJ, .int x11, .int x12, .int x13, .int x14, .int x15, .int x16, .int x17, .int x18, .ref b0, mJ, mJ, mJ, mJ, mJ, mJ, mJ, mJ, mJ, mJ, mJ, mJ]) f_169_143 (Nat.le_of_ble_eq_true rfl) rfl) ?_
  refine Eq.trans (X_st f_169_145 rfl rfl) ?_
  refine Eq.trans (X_st f_169_147 rfl rfl) ?_
  refine Eq.trans (X_newm f_169_149 (jnn h1) (jcl h1) h3 (jnn h0) (jcl h0) h2) ?_
  exact mX_maskK lm_169_153 rfl
theorem b_169_153 {d : Nat} {a0 : Nat} {a1 : Nat} {a3 : Nat} {x4 : Int32} {x5 : Int32} {x6 : Int32} {x7 : Int32} {l9 : Int64} {x11 : Int32} {x12 : Int32} {x13 : Int32} {x14 : Int32} {x15 : Int32} {x16 : Int32} {x17 : Int32} {x18 : Int32} {a19 : Nat} {b0 : Nat} {w : MW} : mX d 169 153 [.ref a0, .ref a1, mJ, .ref a3, .int x4, .int x5, .int x6, .int x7, mJ, .long l9, mJ, .int x11, .int x12, .int x13, .int x14, .int x15, .int x16, .int x17, .int x18, .ref a19, mJ, mJ, mJ, mJ, mJ, mJ, mJ, mJ, mJ, mJ, mJ, mJ] [.ref b0] w = mX d 169 158 [.ref a0, .ref a1, mJ, .ref a3, .int x4, .int x5, .int x6, .int x7, mJ, .long l9, mJ, .int x11, .int x12, .int x13, .int x14, .int x15, .int x16, .int x17, .int x18, .ref a19, .ref b0, .int (nI 0), mJ, mJ, mJ, mJ, mJ, mJ, mJ, mJ, mJ, mJ] [] w := by
  refine Eq.trans (X_astore (L' := [.ref a0, .ref a1, mJ, .ref a3, .int x4, .int x5, .int x6, .int x7, mJ, .long l9, mJ, .int x11, .int x12, .int x13, .int x14, .int x15, .int x16, .int x17, .int x18, .ref a19, .ref b0, mJ, mJ, mJ, mJ, mJ, mJ, mJ, mJ, mJ, mJ, mJ]) f_169_153 (Nat.le_of_ble_eq_true rfl) rfl) ?_
  refine Eq.trans (X_iconst f_169_155 kc_i_0) ?_
  refine Eq.trans (X_istore (L' := [.ref a0, .ref a1, mJ, .ref a3, .int x4, .int x5, .int x6, .int x7, mJ, .long l9, mJ, .int x11, .int x12, .int x13, .int x14, .int x15, .int x16, .int x17, .int x18, .ref a19, .ref b0, .int (nI 0), mJ, mJ, mJ, mJ, mJ, mJ, mJ, mJ, mJ, mJ]) f_169_156 (Nat.le_of_ble_eq_true rfl) rfl) ?_
  exact mX_maskK lm_169_158 rfl
theorem b_169_158 {d : Nat} {a0 : Nat} {a1 : Nat} {a3 : Nat} {x4 : Int32} {x5 : Int32} {x6 : Int32} {x7 : Int32} {l9 : Int64} {x11 : Int32} {x12 : Int32} {x13 : Int32} {x14 : Int32} {x15 : Int32} {x16 : Int32} {x17 : Int32} {x18 : Int32} {a19 : Nat} {a20 : Nat} {x21 : Int32} {w : MW} : mX d 169 158 [.ref a0, .ref a1, mJ, .ref a3, .int x4, .int x5, .int x6, .int x7, mJ, .long l9, mJ, .int x11, .int x12, .int x13, .int x14, .int x15, .int x16, .int x17, .int x18, .ref a19, .ref a20, .int x21, mJ, mJ, mJ, mJ, mJ, mJ, mJ, mJ, mJ, mJ] [] w = (if x4 ≤ x21 then mX d 169 507 [.ref a0, .ref a1, mJ, .ref a3, .int x4, .int x5, .int x6, .int x7, mJ, .long l9, mJ, .int x11, .int x12, .int x13, .int x14, .int x15, .int x16, .int x17, .int x18, .ref a19, .ref a20, mJ, mJ, mJ, mJ, mJ, mJ, mJ, mJ, mJ, mJ, mJ] [] w else mX d 169 165 [.ref a0, .ref a1, mJ, .ref a3, .int x4, .int x5, .int x6, .int x7, mJ, .long l9, mJ, .int x11, .int x12, .int x13, .int x14, .int x15, .int x16, .int x17, .int x18, .ref a19, .ref a20, .int x21, mJ, mJ, mJ, mJ, mJ, mJ, mJ, mJ, mJ, mJ] [] w) := by
  refine Eq.trans (X_st f_169_158 rfl rfl) ?_
  refine Eq.trans (X_st f_169_160 rfl rfl) ?_
  refine Eq.trans (X_br f_169_162 rfl rfl) ?_
  exact mIte_eq (mX_maskK lm_169_507 rfl) (mX_maskK lm_169_165 rfl)
theorem b_169_165 {d : Nat} {a0 : Nat} {a1 : Nat} {a3 : Nat} {x4 : Int32} {x5 : Int32} {x6 : Int32} {x7 : Int32} {l9 : Int64} {x11 : Int32} {x12 : Int32} {x13 : Int32} {x14 : Int32} {x15 : Int32} {x16 : Int32} {x17 : Int32} {x18 : Int32} {a19 : Nat} {a20 : Nat} {x21 : Int32} {w : MW} (h0 : mTg w a1 = 9) : mX (d + 1) 169 165 [.ref a0, .ref a1, mJ, .ref a3, .int x4, .int x5, .int x6, .int x7, mJ, .long l9, mJ, .int x11, .int x12, .int x13, .int x14, .int x15, .int x16, .int x17, .int x18, .ref a19, .ref a20, .int x21, mJ, mJ, mJ, mJ, mJ, mJ, mJ, mJ, mJ, mJ] [] w = mThen (mK d 103 [.ref a1, .int x21, .int (nI 0)] w) (fun v w9 => mX (d + 1) 169 172 [.ref a0, .ref a1, mJ, .ref a3, .int x4, .int x5, .int x6, .int x7, mJ, .long l9, mJ, .int x11, .int x12, .int x13, .int x14, .int x15, .int x16, .int x17, .int x18, .ref a19, .ref a20, .int x21, mJ, mJ, mJ, mJ, mJ, mJ, mJ, mJ, mJ, mJ] (v.toList ++ []) w9) := by
  refine Eq.trans (X_st f_169_165 rfl rfl) ?_
  refine Eq.trans (X_st f_169_166 rfl rfl) ?_
  refine Eq.trans (X_iconst f_169_168 kc_i_0) ?_
  refine Eq.trans (X_call f_169_169 (by decide) rfl rfl rfl rfl rfl rfl (Nat.le_of_ble_eq_true rfl) (Nat.le_of_ble_eq_true rfl) (decide_eq_true h0) (Nat.le_of_ble_eq_true rfl)) ?_
  exact mThen_eq fun v w9 => mX_maskK lm_169_172 rfl
theorem b_169_172 {d : Nat} {a0 : Nat} {a1 : Nat} {a3 : Nat} {x4 : Int32} {x5 : Int32} {x6 : Int32} {x7 : Int32} {l9 : Int64} {x11 : Int32} {x12 : Int32} {x13 : Int32} {x14 : Int32} {x15 : Int32} {x16 : Int32} {x17 : Int32} {x18 : Int32} {a19 : Nat} {a20 : Nat} {x21 : Int32} {y0 : Int32} {w : MW} : mX d 169 172 [.ref a0, .ref a1, mJ, .ref a3, .int x4, .int x5, .int x6, .int x7, mJ, .long l9, mJ, .int x11, .int x12, .int x13, .int x14, .int x15, .int x16, .int x17, .int x18, .ref a19, .ref a20, .int x21, mJ, mJ, mJ, mJ, mJ, mJ, mJ, mJ, mJ, mJ] [.int y0] w = (if ¬ y0 = (nI 1) then mX d 169 180 [.ref a0, .ref a1, mJ, .ref a3, .int x4, .int x5, .int x6, .int x7, mJ, .long l9, mJ, .int x11, .int x12, .int x13, .int x14, .int x15, .int x16, .int x17, .int x18, .ref a19, .ref a20, .int x21, mJ, mJ, mJ, mJ, mJ, mJ, mJ, mJ, mJ, mJ] [] w else mX d 169 176 [.ref a0, .ref a1, mJ, .ref a3, .int x4, .int x5, .int x6, .int x7, mJ, .long l9, mJ, .int x11, .int x12, .int x13, .int x14, .int x15, .int x16, .int x17, .int x18, .ref a19, .ref a20, .int x21, mJ, mJ, mJ, mJ, mJ, mJ, mJ, mJ, mJ, mJ] [] w) := by
  refine Eq.trans (X_iconst f_169_172 kc_i_1) ?_
  refine Eq.trans (X_br f_169_173 rfl rfl) ?_
  exact mIte_eq (mX_maskK lm_169_180 rfl) (mX_maskK lm_169_176 rfl)
theorem b_169_176 {d : Nat} {a0 : Nat} {a1 : Nat} {a3 : Nat} {x4 : Int32} {x5 : Int32} {x6 : Int32} {x7 : Int32} {l9 : Int64} {x11 : Int32} {x12 : Int32} {x13 : Int32} {x14 : Int32} {x15 : Int32} {x16 : Int32} {x17 : Int32} {x18 : Int32} {a19 : Nat} {a20 : Nat} {x21 : Int32} {w : MW} : mX d 169 176 [.ref a0, .ref a1, mJ, .ref a3, .int x4, .int x5, .int x6, .int x7, mJ, .long l9, mJ, .int x11, .int x12, .int x13, .int x14, .int x15, .int x16, .int x17, .int x18, .ref a19, .ref a20, .int x21, mJ, mJ, mJ, mJ, mJ, mJ, mJ, mJ, mJ, mJ] [] w = mX d 169 181 [.ref a0, .ref a1, mJ, .ref a3, .int x4, .int x5, .int x6, .int x7, mJ, .long l9, mJ, .int x11, .int x12, .int x13, .int x14, .int x15, .int x16, .int x17, .int x18, .ref a19, .ref a20, .int x21, mJ, mJ, mJ, mJ, mJ, mJ, mJ, mJ, mJ, mJ] [.int (nI 1)] w := by
  refine Eq.trans (X_iconst f_169_176 kc_i_1) ?_
  refine Eq.trans (X_st f_169_177 rfl rfl) ?_
  exact mX_maskK lm_169_181 rfl
theorem b_169_180 {d : Nat} {a0 : Nat} {a1 : Nat} {a3 : Nat} {x4 : Int32} {x5 : Int32} {x6 : Int32} {x7 : Int32} {l9 : Int64} {x11 : Int32} {x12 : Int32} {x13 : Int32} {x14 : Int32} {x15 : Int32} {x16 : Int32} {x17 : Int32} {x18 : Int32} {a19 : Nat} {a20 : Nat} {x21 : Int32} {w : MW} : mX d 169 180 [.ref a0, .ref a1, mJ, .ref a3, .int x4, .int x5, .int x6, .int x7, mJ, .long l9, mJ, .int x11, .int x12, .int x13, .int x14, .int x15, .int x16, .int x17, .int x18, .ref a19, .ref a20, .int x21, mJ, mJ, mJ, mJ, mJ, mJ, mJ, mJ, mJ, mJ] [] w = mX d 169 181 [.ref a0, .ref a1, mJ, .ref a3, .int x4, .int x5, .int x6, .int x7, mJ, .long l9, mJ, .int x11, .int x12, .int x13, .int x14, .int x15, .int x16, .int x17, .int x18, .ref a19, .ref a20, .int x21, mJ, mJ, mJ, mJ, mJ, mJ, mJ, mJ, mJ, mJ] [.int (nI 0)] w := by
  refine Eq.trans (X_iconst f_169_180 kc_i_0) ?_
  exact mX_maskK lm_169_181 rfl
theorem b_169_181 {d : Nat} {a0 : Nat} {a1 : Nat} {a3 : Nat} {x4 : Int32} {x5 : Int32} {x6 : Int32} {x7 : Int32} {l9 : Int64} {x11 : Int32} {x12 : Int32} {x13 : Int32} {x14 : Int32} {x15 : Int32} {x16 : Int32} {x17 : Int32} {x18 : Int32} {a19 : Nat} {a20 : Nat} {x21 : Int32} {y0 : Int32} {w : MW} : mX d 169 181 [.ref a0, .ref a1, mJ, .ref a3, .int x4, .int x5, .int x6, .int x7, mJ, .long l9, mJ, .int x11, .int x12, .int x13, .int x14, .int x15, .int x16, .int x17, .int x18, .ref a19, .ref a20, .int x21, mJ, mJ, mJ, mJ, mJ, mJ, mJ, mJ, mJ, mJ] [.int y0] w = (if y0 = nI 0 then mX d 169 194 [.ref a0, .ref a1, mJ, .ref a3, .int x4, .int x5, .int x6, .int x7, mJ, .long l9, mJ, .int x11, .int x12, .int x13, mJ, .int x15, .int x16, .int x17, .int x18, .ref a19, .ref a20, .int x21, .int y0, mJ, mJ, mJ, mJ, mJ, mJ, mJ, mJ, mJ] [.int x14] w else mX d 169 190 [.ref a0, .ref a1, mJ, .ref a3, .int x4, .int x5, .int x6, .int x7, mJ, .long l9, mJ, .int x11, .int x12, .int x13, mJ, .int x15, .int x16, .int x17, .int x18, .ref a19, .ref a20, .int x21, .int y0, mJ, mJ, mJ, mJ, mJ, mJ, mJ, mJ, mJ] [.int x14] w) := by
  refine Eq.trans (X_istore (L' := [.ref a0, .ref a1, mJ, .ref a3, .int x4, .int x5, .int x6, .int x7, mJ, .long l9, mJ, .int x11, .int x12, .int x13, .int x14, .int x15, .int x16, .int x17, .int x18, .ref a19, .ref a20, .int x21, .int y0, mJ, mJ, mJ, mJ, mJ, mJ, mJ, mJ, mJ]) f_169_181 (Nat.le_of_ble_eq_true rfl) rfl) ?_
  refine Eq.trans (X_st f_169_183 rfl rfl) ?_
  refine Eq.trans (X_st f_169_185 rfl rfl) ?_
  refine Eq.trans (X_br f_169_187 rfl rfl) ?_
  exact mIte_eq (mX_maskK lm_169_194 rfl) (mX_maskK lm_169_190 rfl)
theorem b_169_190 {d : Nat} {a0 : Nat} {a1 : Nat} {a3 : Nat} {x4 : Int32} {x5 : Int32} {x6 : Int32} {x7 : Int32} {l9 : Int64} {x11 : Int32} {x12 : Int32} {x13 : Int32} {x15 : Int32} {x16 : Int32} {x17 : Int32} {x18 : Int32} {a19 : Nat} {a20 : Nat} {x21 : Int32} {x22 : Int32} {y0 : Int32} {w : MW} : mX d 169 190 [.ref a0, .ref a1, mJ, .ref a3, .int x4, .int x5, .int x6, .int x7, mJ, .long l9, mJ, .int x11, .int x12, .int x13, mJ, .int x15, .int x16, .int x17, .int x18, .ref a19, .ref a20, .int x21, .int x22, mJ, mJ, mJ, mJ, mJ, mJ, mJ, mJ, mJ] [.int y0] w = mX d 169 195 [.ref a0, .ref a1, mJ, .ref a3, .int x4, .int x5, .int x6, .int x7, mJ, .long l9, mJ, .int x11, .int x12, .int x13, mJ, .int x15, .int x16, .int x17, .int x18, .ref a19, .ref a20, .int x21, .int x22, mJ, mJ, mJ, mJ, mJ, mJ, mJ, mJ, mJ] [.int (nI 1), .int y0] w := by
  refine Eq.trans (X_iconst f_169_190 kc_i_1) ?_
  refine Eq.trans (X_st f_169_191 rfl rfl) ?_
  exact mX_maskK lm_169_195 rfl
theorem b_169_194 {d : Nat} {a0 : Nat} {a1 : Nat} {a3 : Nat} {x4 : Int32} {x5 : Int32} {x6 : Int32} {x7 : Int32} {l9 : Int64} {x11 : Int32} {x12 : Int32} {x13 : Int32} {x15 : Int32} {x16 : Int32} {x17 : Int32} {x18 : Int32} {a19 : Nat} {a20 : Nat} {x21 : Int32} {x22 : Int32} {y0 : Int32} {w : MW} : mX d 169 194 [.ref a0, .ref a1, mJ, .ref a3, .int x4, .int x5, .int x6, .int x7, mJ, .long l9, mJ, .int x11, .int x12, .int x13, mJ, .int x15, .int x16, .int x17, .int x18, .ref a19, .ref a20, .int x21, .int x22, mJ, mJ, mJ, mJ, mJ, mJ, mJ, mJ, mJ] [.int y0] w = mX d 169 195 [.ref a0, .ref a1, mJ, .ref a3, .int x4, .int x5, .int x6, .int x7, mJ, .long l9, mJ, .int x11, .int x12, .int x13, mJ, .int x15, .int x16, .int x17, .int x18, .ref a19, .ref a20, .int x21, .int x22, mJ, mJ, mJ, mJ, mJ, mJ, mJ, mJ, mJ] [.int (nI 0), .int y0] w := by
  refine Eq.trans (X_iconst f_169_194 kc_i_0) ?_
  exact mX_maskK lm_169_195 rfl
theorem b_169_195 {d : Nat} {a0 : Nat} {a1 : Nat} {a3 : Nat} {x4 : Int32} {x5 : Int32} {x6 : Int32} {x7 : Int32} {l9 : Int64} {x11 : Int32} {x12 : Int32} {x13 : Int32} {x15 : Int32} {x16 : Int32} {x17 : Int32} {x18 : Int32} {a19 : Nat} {a20 : Nat} {x21 : Int32} {x22 : Int32} {y0 : Int32} {y1 : Int32} {w : MW} (h0 : mTg w a1 = 9) : mX (d + 1) 169 195 [.ref a0, .ref a1, mJ, .ref a3, .int x4, .int x5, .int x6, .int x7, mJ, .long l9, mJ, .int x11, .int x12, .int x13, mJ, .int x15, .int x16, .int x17, .int x18, .ref a19, .ref a20, .int x21, .int x22, mJ, mJ, mJ, mJ, mJ, mJ, mJ, mJ, mJ] [.int y0, .int y1] w = mThen (mK d 103 [.ref a1, .int x21, .int (nI 6)] w) (fun v w9 => mX (d + 1) 169 208 [.ref a0, .ref a1, mJ, .ref a3, .int x4, .int x5, .int x6, .int x7, mJ, .long l9, mJ, .int x11, .int x12, .int x13, .int (y1 + y0), mJ, .int x16, .int x17, .int x18, .ref a19, .ref a20, .int x21, .int x22, mJ, mJ, mJ, mJ, mJ, mJ, mJ, mJ, mJ] (v.toList ++ [.int x15]) w9) := by
  refine Eq.trans (X_st f_169_195 rfl rfl) ?_
  refine Eq.trans (X_istore (L' := [.ref a0, .ref a1, mJ, .ref a3, .int x4, .int x5, .int x6, .int x7, mJ, .long l9, mJ, .int x11, .int x12, .int x13, .int (y1 + y0), .int x15, .int x16, .int x17, .int x18, .ref a19, .ref a20, .int x21, .int x22, mJ, mJ, mJ, mJ, mJ, mJ, mJ, mJ, mJ]) f_169_196 (Nat.le_of_ble_eq_true rfl) rfl) ?_
  refine Eq.trans (X_st f_169_198 rfl rfl) ?_
  refine Eq.trans (X_st f_169_200 rfl rfl) ?_
  refine Eq.trans (X_st f_169_201 rfl rfl) ?_
  refine Eq.trans (X_bipush f_169_203 kc_b_6) ?_
  refine Eq.trans (X_call f_169_205 (by decide) rfl rfl rfl rfl rfl rfl (Nat.le_of_ble_eq_true rfl) (Nat.le_of_ble_eq_true rfl) (decide_eq_true h0) (Nat.le_of_ble_eq_true rfl)) ?_
  exact mThen_eq fun v w9 => mX_maskK lm_169_208 rfl
theorem b_169_208 {d : Nat} {a0 : Nat} {a1 : Nat} {a3 : Nat} {x4 : Int32} {x5 : Int32} {x6 : Int32} {x7 : Int32} {l9 : Int64} {x11 : Int32} {x12 : Int32} {x13 : Int32} {x14 : Int32} {x16 : Int32} {x17 : Int32} {x18 : Int32} {a19 : Nat} {a20 : Nat} {x21 : Int32} {x22 : Int32} {y0 : Int32} {y1 : Int32} {w : MW} (h0 : mTg w a1 = 9) : mX (d + 1) 169 208 [.ref a0, .ref a1, mJ, .ref a3, .int x4, .int x5, .int x6, .int x7, mJ, .long l9, mJ, .int x11, .int x12, .int x13, .int x14, mJ, .int x16, .int x17, .int x18, .ref a19, .ref a20, .int x21, .int x22, mJ, mJ, mJ, mJ, mJ, mJ, mJ, mJ, mJ] [.int y0, .int y1] w = mThen (mK d 103 [.ref a1, .int x21, .int (nI 7)] w) (fun v w9 => mX (d + 1) 169 221 [.ref a0, .ref a1, mJ, .ref a3, .int x4, .int x5, .int x6, .int x7, mJ, .long l9, mJ, .int x11, .int x12, .int x13, .int x14, .int (y1 + y0), mJ, .int x17, .int x18, .ref a19, .ref a20, .int x21, .int x22, mJ, mJ, mJ, mJ, mJ, mJ, mJ, mJ, mJ] (v.toList ++ [.int x16]) w9) := by
  refine Eq.trans (X_st f_169_208 rfl rfl) ?_
  refine Eq.trans (X_istore (L' := [.ref a0, .ref a1, mJ, .ref a3, .int x4, .int x5, .int x6, .int x7, mJ, .long l9, mJ, .int x11, .int x12, .int x13, .int x14, .int (y1 + y0), .int x16, .int x17, .int x18, .ref a19, .ref a20, .int x21, .int x22, mJ, mJ, mJ, mJ, mJ, mJ, mJ, mJ, mJ]) f_169_209 (Nat.le_of_ble_eq_true rfl) rfl) ?_
  refine Eq.trans (X_st f_169_211 rfl rfl) ?_
  refine Eq.trans (X_st f_169_213 rfl rfl) ?_
  refine Eq.trans (X_st f_169_214 rfl rfl) ?_
  refine Eq.trans (X_bipush f_169_216 kc_b_7) ?_
  refine Eq.trans (X_call f_169_218 (by decide) rfl rfl rfl rfl rfl rfl (Nat.le_of_ble_eq_true rfl) (Nat.le_of_ble_eq_true rfl) (decide_eq_true h0) (Nat.le_of_ble_eq_true rfl)) ?_
  exact mThen_eq fun v w9 => mX_maskK lm_169_221 rfl
theorem b_169_221 {d : Nat} {a0 : Nat} {a1 : Nat} {a3 : Nat} {x4 : Int32} {x5 : Int32} {x6 : Int32} {x7 : Int32} {l9 : Int64} {x11 : Int32} {x12 : Int32} {x13 : Int32} {x14 : Int32} {x15 : Int32} {x17 : Int32} {x18 : Int32} {a19 : Nat} {a20 : Nat} {x21 : Int32} {x22 : Int32} {y0 : Int32} {y1 : Int32} {w : MW} (h0 : mTg w a1 = 9) : mX (d + 1) 169 221 [.ref a0, .ref a1, mJ, .ref a3, .int x4, .int x5, .int x6, .int x7, mJ, .long l9, mJ, .int x11, .int x12, .int x13, .int x14, .int x15, mJ, .int x17, .int x18, .ref a19, .ref a20, .int x21, .int x22, mJ, mJ, mJ, mJ, mJ, mJ, mJ, mJ, mJ] [.int y0, .int y1] w = mThen (mK d 103 [.ref a1, .int x21, .int (nI 5)] w) (fun v w9 => mX (d + 1) 169 233 [.ref a0, .ref a1, mJ, .ref a3, .int x4, .int x5, .int x6, .int x7, mJ, .long l9, mJ, .int x11, .int x12, .int x13, .int x14, .int x15, .int (y1 + y0), mJ, .int x18, .ref a19, .ref a20, .int x21, .int x22, mJ, mJ, mJ, mJ, mJ, mJ, mJ, mJ, mJ] (v.toList ++ [.int x17]) w9) := by
  refine Eq.trans (X_st f_169_221 rfl rfl) ?_
  refine Eq.trans (X_istore (L' := [.ref a0, .ref a1, mJ, .ref a3, .int x4, .int x5, .int x6, .int x7, mJ, .long l9, mJ, .int x11, .int x12, .int x13, .int x14, .int x15, .int (y1 + y0), .int x17, .int x18, .ref a19, .ref a20, .int x21, .int x22, mJ, mJ, mJ, mJ, mJ, mJ, mJ, mJ, mJ]) f_169_222 (Nat.le_of_ble_eq_true rfl) rfl) ?_
  refine Eq.trans (X_st f_169_224 rfl rfl) ?_
  refine Eq.trans (X_st f_169_226 rfl rfl) ?_
  refine Eq.trans (X_st f_169_227 rfl rfl) ?_
  refine Eq.trans (X_iconst f_169_229 kc_i_5) ?_
  refine Eq.trans (X_call f_169_230 (by decide) rfl rfl rfl rfl rfl rfl (Nat.le_of_ble_eq_true rfl) (Nat.le_of_ble_eq_true rfl) (decide_eq_true h0) (Nat.le_of_ble_eq_true rfl)) ?_
  exact mThen_eq fun v w9 => mX_maskK lm_169_233 rfl
theorem b_169_233 {d : Nat} {a0 : Nat} {a1 : Nat} {a3 : Nat} {x4 : Int32} {x5 : Int32} {x6 : Int32} {x7 : Int32} {l9 : Int64} {x11 : Int32} {x12 : Int32} {x13 : Int32} {x14 : Int32} {x15 : Int32} {x16 : Int32} {x18 : Int32} {a19 : Nat} {a20 : Nat} {x21 : Int32} {x22 : Int32} {y0 : Int32} {y1 : Int32} {w : MW} (h0 : mTg w a1 = 9) : mX (d + 1) 169 233 [.ref a0, .ref a1, mJ, .ref a3, .int x4, .int x5, .int x6, .int x7, mJ, .long l9, mJ, .int x11, .int x12, .int x13, .int x14, .int x15, .int x16, mJ, .int x18, .ref a19, .ref a20, .int x21, .int x22, mJ, mJ, mJ, mJ, mJ, mJ, mJ, mJ, mJ] [.int y0, .int y1] w = mThen (mK d 103 [.ref a1, .int x21, .int (nI 8)] w) (fun v w9 => mX (d + 1) 169 247 [.ref a0, .ref a1, mJ, .ref a3, .int x4, .int x5, .int x6, .int x7, mJ, .long l9, mJ, .int x11, .int x12, .int x13, .int x14, .int x15, .int x16, .int (y1 + y0), mJ, .ref a19, .ref a20, .int x21, .int x22, mJ, mJ, mJ, mJ, mJ, mJ, mJ, mJ, mJ] (v.toList ++ [.int (nI 1), .int x18]) w9) := by
  refine Eq.trans (X_st f_169_233 rfl rfl) ?_
  refine Eq.trans (X_istore (L' := [.ref a0, .ref a1, mJ, .ref a3, .int x4, .int x5, .int x6, .int x7, mJ, .long l9, mJ, .int x11, .int x12, .int x13, .int x14, .int x15, .int x16, .int (y1 + y0), .int x18, .ref a19, .ref a20, .int x21, .int x22, mJ, mJ, mJ, mJ, mJ, mJ, mJ, mJ, mJ]) f_169_234 (Nat.le_of_ble_eq_true rfl) rfl) ?_
  refine Eq.trans (X_st f_169_236 rfl rfl) ?_
  refine Eq.trans (X_iconst f_169_238 kc_i_1) ?_
  refine Eq.trans (X_st f_169_239 rfl rfl) ?_
  refine Eq.trans (X_st f_169_240 rfl rfl) ?_
  refine Eq.trans (X_bipush f_169_242 kc_b_8) ?_
  refine Eq.trans (X_call f_169_244 (by decide) rfl rfl rfl rfl rfl rfl (Nat.le_of_ble_eq_true rfl) (Nat.le_of_ble_eq_true rfl) (decide_eq_true h0) (Nat.le_of_ble_eq_true rfl)) ?_
  exact mThen_eq fun v w9 => mX_maskK lm_169_247 rfl
theorem b_169_247 {d : Nat} {a0 : Nat} {a1 : Nat} {a3 : Nat} {x4 : Int32} {x5 : Int32} {x6 : Int32} {x7 : Int32} {l9 : Int64} {x11 : Int32} {x12 : Int32} {x13 : Int32} {x14 : Int32} {x15 : Int32} {x16 : Int32} {x17 : Int32} {a19 : Nat} {a20 : Nat} {x21 : Int32} {x22 : Int32} {y0 : Int32} {y1 : Int32} {y2 : Int32} {w : MW} (h0 : mTg w a1 = 9) : mX (d + 1) 169 247 [.ref a0, .ref a1, mJ, .ref a3, .int x4, .int x5, .int x6, .int x7, mJ, .long l9, mJ, .int x11, .int x12, .int x13, .int x14, .int x15, .int x16, .int x17, mJ, .ref a19, .ref a20, .int x21, .int x22, mJ, mJ, mJ, mJ, mJ, mJ, mJ, mJ, mJ] [.int y0, .int y1, .int y2] w = mThen (mK d 103 [.ref a1, .int x21, .int (nI 1)] w) (fun v w9 => mX (d + 1) 169 258 [.ref a0, .ref a1, mJ, .ref a3, .int x4, .int x5, .int x6, .int x7, mJ, .long l9, mJ, .int x11, .int x12, .int x13, .int x14, .int x15, .int x16, .int x17, .int (y2 ||| (y1 <<< (y0 &&& 31))), .ref a19, .ref a20, .int x21, .int x22, mJ, mJ, mJ, mJ, mJ, mJ, mJ, mJ, mJ] (v.toList ++ []) w9) := by
  refine Eq.trans (X_st f_169_247 rfl rfl) ?_
  refine Eq.trans (X_st f_169_248 rfl rfl) ?_
  refine Eq.trans (X_istore (L' := [.ref a0, .ref a1, mJ, .ref a3, .int x4, .int x5, .int x6, .int x7, mJ, .long l9, mJ, .int x11, .int x12, .int x13, .int x14, .int x15, .int x16, .int x17, .int (y2 ||| (y1 <<< (y0 &&& 31))), .ref a19, .ref a20, .int x21, .int x22, mJ, mJ, mJ, mJ, mJ, mJ, mJ, mJ, mJ]) f_169_249 (Nat.le_of_ble_eq_true rfl) rfl) ?_
  refine Eq.trans (X_st f_169_251 rfl rfl) ?_
  refine Eq.trans (X_st f_169_252 rfl rfl) ?_
  refine Eq.trans (X_iconst f_169_254 kc_i_1) ?_
  refine Eq.trans (X_call f_169_255 (by decide) rfl rfl rfl rfl rfl rfl (Nat.le_of_ble_eq_true rfl) (Nat.le_of_ble_eq_true rfl) (decide_eq_true h0) (Nat.le_of_ble_eq_true rfl)) ?_
  exact mThen_eq fun v w9 => mX_maskK lm_169_258 rfl
theorem b_169_258 {d : Nat} {a0 : Nat} {a1 : Nat} {a3 : Nat} {x4 : Int32} {x5 : Int32} {x6 : Int32} {x7 : Int32} {l9 : Int64} {x11 : Int32} {x12 : Int32} {x13 : Int32} {x14 : Int32} {x15 : Int32} {x16 : Int32} {x17 : Int32} {x18 : Int32} {a19 : Nat} {a20 : Nat} {x21 : Int32} {x22 : Int32} {y0 : Int32} {w : MW} : mX d 169 258 [.ref a0, .ref a1, mJ, .ref a3, .int x4, .int x5, .int x6, .int x7, mJ, .long l9, mJ, .int x11, .int x12, .int x13, .int x14, .int x15, .int x16, .int x17, .int x18, .ref a19, .ref a20, .int x21, .int x22, mJ, mJ, mJ, mJ, mJ, mJ, mJ, mJ, mJ] [.int y0] w = (if y0 < nI 0 then mX d 169 319 [mJ, mJ, mJ, mJ, mJ, mJ, mJ, mJ, mJ, mJ, mJ, mJ, mJ, mJ, mJ, mJ, mJ, mJ, mJ, mJ, mJ, mJ, mJ, mJ, mJ, mJ, mJ, mJ, mJ, mJ, mJ, mJ] [] w else mX d 169 261 [.ref a0, .ref a1, mJ, .ref a3, .int x4, .int x5, .int x6, .int x7, mJ, .long l9, mJ, .int x11, .int x12, .int x13, .int x14, .int x15, .int x16, .int x17, .int x18, .ref a19, .ref a20, .int x21, .int x22, mJ, mJ, mJ, mJ, mJ, mJ, mJ, mJ, mJ] [] w) := by
  refine Eq.trans (X_br f_169_258 rfl rfl) ?_
  exact mIte_eq (mX_maskK lm_169_319 rfl) (mX_maskK lm_169_261 rfl)
theorem b_169_261 {d : Nat} {a0 : Nat} {a1 : Nat} {a3 : Nat} {x4 : Int32} {x5 : Int32} {x6 : Int32} {x7 : Int32} {l9 : Int64} {x11 : Int32} {x12 : Int32} {x13 : Int32} {x14 : Int32} {x15 : Int32} {x16 : Int32} {x17 : Int32} {x18 : Int32} {a19 : Nat} {a20 : Nat} {x21 : Int32} {x22 : Int32} {w : MW} (h0 : mTg w a1 = 9) : mX (d + 1) 169 261 [.ref a0, .ref a1, mJ, .ref a3, .int x4, .int x5, .int x6, .int x7, mJ, .long l9, mJ, .int x11, .int x12, .int x13, .int x14, .int x15, .int x16, .int x17, .int x18, .ref a19, .ref a20, .int x21, .int x22, mJ, mJ, mJ, mJ, mJ, mJ, mJ, mJ, mJ] [] w = mThen (mK d 103 [.ref a1, .int x21, .int (nI 2)] w) (fun v w9 => mX (d + 1) 169 268 [.ref a0, .ref a1, mJ, .ref a3, .int x4, .int x5, .int x6, .int x7, mJ, .long l9, mJ, .int x11, .int x12, .int x13, .int x14, .int x15, .int x16, .int x17, .int x18, .ref a19, .ref a20, .int x21, .int x22, mJ, mJ, mJ, mJ, mJ, mJ, mJ, mJ, mJ] (v.toList ++ []) w9) := by
  refine Eq.trans (X_st f_169_261 rfl rfl) ?_
  refine Eq.trans (X_st f_169_262 rfl rfl) ?_
  refine Eq.trans (X_iconst f_169_264 kc_i_2) ?_
  refine Eq.trans (X_call f_169_265 (by decide) rfl rfl rfl rfl rfl rfl (Nat.le_of_ble_eq_true rfl) (Nat.le_of_ble_eq_true rfl) (decide_eq_true h0) (Nat.le_of_ble_eq_true rfl)) ?_
  exact mThen_eq fun v w9 => mX_maskK lm_169_268 rfl
theorem b_169_268 {d : Nat} {a0 : Nat} {a1 : Nat} {a3 : Nat} {x4 : Int32} {x5 : Int32} {x6 : Int32} {x7 : Int32} {l9 : Int64} {x11 : Int32} {x12 : Int32} {x13 : Int32} {x14 : Int32} {x15 : Int32} {x16 : Int32} {x17 : Int32} {x18 : Int32} {a19 : Nat} {a20 : Nat} {x21 : Int32} {x22 : Int32} {y0 : Int32} {w : MW} : mX d 169 268 [.ref a0, .ref a1, mJ, .ref a3, .int x4, .int x5, .int x6, .int x7, mJ, .long l9, mJ, .int x11, .int x12, .int x13, .int x14, .int x15, .int x16, .int x17, .int x18, .ref a19, .ref a20, .int x21, .int x22, mJ, mJ, mJ, mJ, mJ, mJ, mJ, mJ, mJ] [.int y0] w = (if y0 < nI 0 then mX d 169 319 [mJ, mJ, mJ, mJ, mJ, mJ, mJ, mJ, mJ, mJ, mJ, mJ, mJ, mJ, mJ, mJ, mJ, mJ, mJ, mJ, mJ, mJ, mJ, mJ, mJ, mJ, mJ, mJ, mJ, mJ, mJ, mJ] [] w else mX d 169 271 [.ref a0, .ref a1, mJ, .ref a3, .int x4, .int x5, .int x6, .int x7, mJ, .long l9, mJ, .int x11, .int x12, .int x13, .int x14, .int x15, .int x16, .int x17, .int x18, .ref a19, .ref a20, .int x21, .int x22, mJ, mJ, mJ, mJ, mJ, mJ, mJ, mJ, mJ] [] w) := by
  refine Eq.trans (X_br f_169_268 rfl rfl) ?_
  exact mIte_eq (mX_maskK lm_169_319 rfl) (mX_maskK lm_169_271 rfl)
theorem b_169_271 {d : Nat} {a0 : Nat} {a1 : Nat} {a3 : Nat} {x4 : Int32} {x5 : Int32} {x6 : Int32} {x7 : Int32} {l9 : Int64} {x11 : Int32} {x12 : Int32} {x13 : Int32} {x14 : Int32} {x15 : Int32} {x16 : Int32} {x17 : Int32} {x18 : Int32} {a19 : Nat} {a20 : Nat} {x21 : Int32} {x22 : Int32} {w : MW} (h0 : mTg w a1 = 9) : mX (d + 1) 169 271 [.ref a0, .ref a1, mJ, .ref a3, .int x4, .int x5, .int x6, .int x7, mJ, .long l9, mJ, .int x11, .int x12, .int x13, .int x14, .int x15, .int x16, .int x17, .int x18, .ref a19, .ref a20, .int x21, .int x22, mJ, mJ, mJ, mJ, mJ, mJ, mJ, mJ, mJ] [] w = mThen (mK d 103 [.ref a1, .int x21, .int (nI 2)] w) (fun v w9 => mX (d + 1) 169 278 [.ref a0, .ref a1, mJ, .ref a3, .int x4, .int x5, .int x6, .int x7, mJ, .long l9, mJ, .int x11, .int x12, .int x13, .int x14, .int x15, .int x16, .int x17, .int x18, .ref a19, .ref a20, .int x21, .int x22, mJ, mJ, mJ, mJ, mJ, mJ, mJ, mJ, mJ] (v.toList ++ []) w9) := by
  refine Eq.trans (X_st f_169_271 rfl rfl) ?_
  refine Eq.trans (X_st f_169_272 rfl rfl) ?_
  refine Eq.trans (X_iconst f_169_274 kc_i_2) ?_
  refine Eq.trans (X_call f_169_275 (by decide) rfl rfl rfl rfl rfl rfl (Nat.le_of_ble_eq_true rfl) (Nat.le_of_ble_eq_true rfl) (decide_eq_true h0) (Nat.le_of_ble_eq_true rfl)) ?_
  exact mThen_eq fun v w9 => mX_maskK lm_169_278 rfl
theorem b_169_278 {d : Nat} {a0 : Nat} {a1 : Nat} {a3 : Nat} {x4 : Int32} {x5 : Int32} {x6 : Int32} {x7 : Int32} {l9 : Int64} {x11 : Int32} {x12 : Int32} {x13 : Int32} {x14 : Int32} {x15 : Int32} {x16 : Int32} {x17 : Int32} {x18 : Int32} {a19 : Nat} {a20 : Nat} {x21 : Int32} {x22 : Int32} {y0 : Int32} {w : MW} : mX d 169 278 [.ref a0, .ref a1, mJ, .ref a3, .int x4, .int x5, .int x6, .int x7, mJ, .long l9, mJ, .int x11, .int x12, .int x13, .int x14, .int x15, .int x16, .int x17, .int x18, .ref a19, .ref a20, .int x21, .int x22, mJ, mJ, mJ, mJ, mJ, mJ, mJ, mJ, mJ] [.int y0] w = (if (nI 2) < y0 then mX d 169 319 [mJ, mJ, mJ, mJ, mJ, mJ, mJ, mJ, mJ, mJ, mJ, mJ, mJ, mJ, mJ, mJ, mJ, mJ, mJ, mJ, mJ, mJ, mJ, mJ, mJ, mJ, mJ, mJ, mJ, mJ, mJ, mJ] [] w else mX d 169 282 [.ref a0, .ref a1, mJ, .ref a3, .int x4, .int x5, .int x6, .int x7, mJ, .long l9, mJ, .int x11, .int x12, .int x13, .int x14, .int x15, .int x16, .int x17, .int x18, .ref a19, .ref a20, .int x21, .int x22, mJ, mJ, mJ, mJ, mJ, mJ, mJ, mJ, mJ] [] w) := by
  refine Eq.trans (X_iconst f_169_278 kc_i_2) ?_
  refine Eq.trans (X_br f_169_279 rfl rfl) ?_
  exact mIte_eq (mX_maskK lm_169_319 rfl) (mX_maskK lm_169_282 rfl)
theorem b_169_282 {d : Nat} {a0 : Nat} {a1 : Nat} {a3 : Nat} {x4 : Int32} {x5 : Int32} {x6 : Int32} {x7 : Int32} {l9 : Int64} {x11 : Int32} {x12 : Int32} {x13 : Int32} {x14 : Int32} {x15 : Int32} {x16 : Int32} {x17 : Int32} {x18 : Int32} {a19 : Nat} {a20 : Nat} {x21 : Int32} {x22 : Int32} {w : MW} : mX d 169 282 [.ref a0, .ref a1, mJ, .ref a3, .int x4, .int x5, .int x6, .int x7, mJ, .long l9, mJ, .int x11, .int x12, .int x13, .int x14, .int x15, .int x16, .int x17, .int x18, .ref a19, .ref a20, .int x21, .int x22, mJ, mJ, mJ, mJ, mJ, mJ, mJ, mJ, mJ] [] w = (if x22 = nI 0 then mX d 169 298 [.ref a0, .ref a1, mJ, .ref a3, .int x4, .int x5, .int x6, .int x7, mJ, .long l9, mJ, .int x11, .int x12, .int x13, .int x14, .int x15, .int x16, .int x17, .int x18, .ref a19, .ref a20, .int x21, .int x22, mJ, mJ, mJ, mJ, mJ, mJ, mJ, mJ, mJ] [] w else mX d 169 287 [.ref a0, .ref a1, mJ, .ref a3, .int x4, .int x5, .int x6, .int x7, mJ, .long l9, mJ, .int x11, .int x12, .int x13, .int x14, .int x15, .int x16, .int x17, .int x18, .ref a19, .ref a20, .int x21, .int x22, mJ, mJ, mJ, mJ, mJ, mJ, mJ, mJ, mJ] [] w) := by
  refine Eq.trans (X_st f_169_282 rfl rfl) ?_
  refine Eq.trans (X_br f_169_284 rfl rfl) ?_
  exact mIte_eq (mX_maskK lm_169_298 rfl) (mX_maskK lm_169_287 rfl)
theorem b_169_287 {d : Nat} {a0 : Nat} {a1 : Nat} {a3 : Nat} {x4 : Int32} {x5 : Int32} {x6 : Int32} {x7 : Int32} {l9 : Int64} {x11 : Int32} {x12 : Int32} {x13 : Int32} {x14 : Int32} {x15 : Int32} {x16 : Int32} {x17 : Int32} {x18 : Int32} {a19 : Nat} {a20 : Nat} {x21 : Int32} {x22 : Int32} {w : MW} (h0 : mTg w a1 = 9) : mX (d + 1) 169 287 [.ref a0, .ref a1, mJ, .ref a3, .int x4, .int x5, .int x6, .int x7, mJ, .long l9, mJ, .int x11, .int x12, .int x13, .int x14, .int x15, .int x16, .int x17, .int x18, .ref a19, .ref a20, .int x21, .int x22, mJ, mJ, mJ, mJ, mJ, mJ, mJ, mJ, mJ] [] w = mThen (mK d 103 [.ref a1, .int x21, .int (nI 2)] w) (fun v w9 => mX (d + 1) 169 294 [.ref a0, .ref a1, mJ, .ref a3, .int x4, .int x5, .int x6, .int x7, mJ, .long l9, mJ, .int x11, .int x12, .int x13, .int x14, .int x15, .int x16, .int x17, .int x18, .ref a19, .ref a20, .int x21, .int x22, mJ, mJ, mJ, mJ, mJ, mJ, mJ, mJ, mJ] (v.toList ++ []) w9) := by
  refine Eq.trans (X_st f_169_287 rfl rfl) ?_
  refine Eq.trans (X_st f_169_288 rfl rfl) ?_
  refine Eq.trans (X_iconst f_169_290 kc_i_2) ?_
  refine Eq.trans (X_call f_169_291 (by decide) rfl rfl rfl rfl rfl rfl (Nat.le_of_ble_eq_true rfl) (Nat.le_of_ble_eq_true rfl) (decide_eq_true h0) (Nat.le_of_ble_eq_true rfl)) ?_
  exact mThen_eq fun v w9 => mX_maskK lm_169_294 rfl
theorem b_169_294 {d : Nat} {a0 : Nat} {a1 : Nat} {a3 : Nat} {x4 : Int32} {x5 : Int32} {x6 : Int32} {x7 : Int32} {l9 : Int64} {x11 : Int32} {x12 : Int32} {x13 : Int32} {x14 : Int32} {x15 : Int32} {x16 : Int32} {x17 : Int32} {x18 : Int32} {a19 : Nat} {a20 : Nat} {x21 : Int32} {x22 : Int32} {y0 : Int32} {w : MW} : mX d 169 294 [.ref a0, .ref a1, mJ, .ref a3, .int x4, .int x5, .int x6, .int x7, mJ, .long l9, mJ, .int x11, .int x12, .int x13, .int x14, .int x15, .int x16, .int x17, .int x18, .ref a19, .ref a20, .int x21, .int x22, mJ, mJ, mJ, mJ, mJ, mJ, mJ, mJ, mJ] [.int y0] w = (if (nI 1) < y0 then mX d 169 319 [mJ, mJ, mJ, mJ, mJ, mJ, mJ, mJ, mJ, mJ, mJ, mJ, mJ, mJ, mJ, mJ, mJ, mJ, mJ, mJ, mJ, mJ, mJ, mJ, mJ, mJ, mJ, mJ, mJ, mJ, mJ, mJ] [] w else mX d 169 298 [.ref a0, .ref a1, mJ, .ref a3, .int x4, .int x5, .int x6, .int x7, mJ, .long l9, mJ, .int x11, .int x12, .int x13, .int x14, .int x15, .int x16, .int x17, .int x18, .ref a19, .ref a20, .int x21, .int x22, mJ, mJ, mJ, mJ, mJ, mJ, mJ, mJ, mJ] [] w) := by
  refine Eq.trans (X_iconst f_169_294 kc_i_1) ?_
  refine Eq.trans (X_br f_169_295 rfl rfl) ?_
  exact mIte_eq (mX_maskK lm_169_319 rfl) (mX_maskK lm_169_298 rfl)
theorem b_169_298 {d : Nat} {a0 : Nat} {a1 : Nat} {a3 : Nat} {x4 : Int32} {x5 : Int32} {x6 : Int32} {x7 : Int32} {l9 : Int64} {x11 : Int32} {x12 : Int32} {x13 : Int32} {x14 : Int32} {x15 : Int32} {x16 : Int32} {x17 : Int32} {x18 : Int32} {a19 : Nat} {a20 : Nat} {x21 : Int32} {x22 : Int32} {w : MW} (h0 : mTg w a1 = 9) : mX (d + 1) 169 298 [.ref a0, .ref a1, mJ, .ref a3, .int x4, .int x5, .int x6, .int x7, mJ, .long l9, mJ, .int x11, .int x12, .int x13, .int x14, .int x15, .int x16, .int x17, .int x18, .ref a19, .ref a20, .int x21, .int x22, mJ, mJ, mJ, mJ, mJ, mJ, mJ, mJ, mJ] [] w = mThen (mK d 103 [.ref a1, .int x21, .int (nI 3)] w) (fun v w9 => mX (d + 1) 169 305 [.ref a0, .ref a1, mJ, .ref a3, .int x4, .int x5, .int x6, .int x7, mJ, .long l9, mJ, .int x11, .int x12, .int x13, .int x14, .int x15, .int x16, .int x17, .int x18, .ref a19, .ref a20, .int x21, .int x22, mJ, mJ, mJ, mJ, mJ, mJ, mJ, mJ, mJ] (v.toList ++ []) w9) := by
  refine Eq.trans (X_st f_169_298 rfl rfl) ?_
  refine Eq.trans (X_st f_169_299 rfl rfl) ?_
  refine Eq.trans (X_iconst f_169_301 kc_i_3) ?_
  refine Eq.trans (X_call f_169_302 (by decide) rfl rfl rfl rfl rfl rfl (Nat.le_of_ble_eq_true rfl) (Nat.le_of_ble_eq_true rfl) (decide_eq_true h0) (Nat.le_of_ble_eq_true rfl)) ?_
  exact mThen_eq fun v w9 => mX_maskK lm_169_305 rfl
theorem b_169_305 {d : Nat} {a0 : Nat} {a1 : Nat} {a3 : Nat} {x4 : Int32} {x5 : Int32} {x6 : Int32} {x7 : Int32} {l9 : Int64} {x11 : Int32} {x12 : Int32} {x13 : Int32} {x14 : Int32} {x15 : Int32} {x16 : Int32} {x17 : Int32} {x18 : Int32} {a19 : Nat} {a20 : Nat} {x21 : Int32} {x22 : Int32} {y0 : Int32} {w : MW} : mX d 169 305 [.ref a0, .ref a1, mJ, .ref a3, .int x4, .int x5, .int x6, .int x7, mJ, .long l9, mJ, .int x11, .int x12, .int x13, .int x14, .int x15, .int x16, .int x17, .int x18, .ref a19, .ref a20, .int x21, .int x22, mJ, mJ, mJ, mJ, mJ, mJ, mJ, mJ, mJ] [.int y0] w = (if y0 < nI 0 then mX d 169 319 [mJ, mJ, mJ, mJ, mJ, mJ, mJ, mJ, mJ, mJ, mJ, mJ, mJ, mJ, mJ, mJ, mJ, mJ, mJ, mJ, mJ, mJ, mJ, mJ, mJ, mJ, mJ, mJ, mJ, mJ, mJ, mJ] [] w else mX d 169 308 [.ref a0, .ref a1, mJ, .ref a3, .int x4, .int x5, .int x6, .int x7, mJ, .long l9, mJ, .int x11, .int x12, .int x13, .int x14, .int x15, .int x16, .int x17, .int x18, .ref a19, .ref a20, .int x21, .int x22, mJ, mJ, mJ, mJ, mJ, mJ, mJ, mJ, mJ] [] w) := by
  refine Eq.trans (X_br f_169_305 rfl rfl) ?_
  exact mIte_eq (mX_maskK lm_169_319 rfl) (mX_maskK lm_169_308 rfl)
theorem b_169_308 {d : Nat} {a0 : Nat} {a1 : Nat} {a3 : Nat} {x4 : Int32} {x5 : Int32} {x6 : Int32} {x7 : Int32} {l9 : Int64} {x11 : Int32} {x12 : Int32} {x13 : Int32} {x14 : Int32} {x15 : Int32} {x16 : Int32} {x17 : Int32} {x18 : Int32} {a19 : Nat} {a20 : Nat} {x21 : Int32} {x22 : Int32} {w : MW} (h0 : mTg w a1 = 9) : mX (d + 1) 169 308 [.ref a0, .ref a1, mJ, .ref a3, .int x4, .int x5, .int x6, .int x7, mJ, .long l9, mJ, .int x11, .int x12, .int x13, .int x14, .int x15, .int x16, .int x17, .int x18, .ref a19, .ref a20, .int x21, .int x22, mJ, mJ, mJ, mJ, mJ, mJ, mJ, mJ, mJ] [] w = mThen (mK d 103 [.ref a1, .int x21, .int (nI 3)] w) (fun v w9 => mX (d + 1) 169 315 [.ref a0, .ref a1, mJ, .ref a3, .int x4, .int x5, .int x6, .int x7, mJ, .long l9, mJ, .int x11, .int x12, .int x13, .int x14, .int x15, .int x16, .int x17, .int x18, .ref a19, .ref a20, .int x21, .int x22, mJ, mJ, mJ, mJ, mJ, mJ, mJ, mJ, mJ] (v.toList ++ []) w9) := by
  refine Eq.trans (X_st f_169_308 rfl rfl) ?_
  refine Eq.trans (X_st f_169_309 rfl rfl) ?_
  refine Eq.trans (X_iconst f_169_311 kc_i_3) ?_
  refine Eq.trans (X_call f_169_312 (by decide) rfl rfl rfl rfl rfl rfl (Nat.le_of_ble_eq_true rfl) (Nat.le_of_ble_eq_true rfl) (decide_eq_true h0) (Nat.le_of_ble_eq_true rfl)) ?_
  exact mThen_eq fun v w9 => mX_maskK lm_169_315 rfl
theorem b_169_315 {d : Nat} {a0 : Nat} {a1 : Nat} {a3 : Nat} {x4 : Int32} {x5 : Int32} {x6 : Int32} {x7 : Int32} {l9 : Int64} {x11 : Int32} {x12 : Int32} {x13 : Int32} {x14 : Int32} {x15 : Int32} {x16 : Int32} {x17 : Int32} {x18 : Int32} {a19 : Nat} {a20 : Nat} {x21 : Int32} {x22 : Int32} {y0 : Int32} {w : MW} : mX d 169 315 [.ref a0, .ref a1, mJ, .ref a3, .int x4, .int x5, .int x6, .int x7, mJ, .long l9, mJ, .int x11, .int x12, .int x13, .int x14, .int x15, .int x16, .int x17, .int x18, .ref a19, .ref a20, .int x21, .int x22, mJ, mJ, mJ, mJ, mJ, mJ, mJ, mJ, mJ] [.int y0] w = (if y0 ≤ (nI 3) then mX d 169 321 [.ref a0, .ref a1, mJ, .ref a3, .int x4, .int x5, .int x6, .int x7, mJ, .long l9, mJ, .int x11, .int x12, .int x13, .int x14, .int x15, .int x16, .int x17, .int x18, .ref a19, .ref a20, .int x21, .int x22, mJ, mJ, mJ, mJ, mJ, mJ, mJ, mJ, mJ] [] w else mX d 169 319 [mJ, mJ, mJ, mJ, mJ, mJ, mJ, mJ, mJ, mJ, mJ, mJ, mJ, mJ, mJ, mJ, mJ, mJ, mJ, mJ, mJ, mJ, mJ, mJ, mJ, mJ, mJ, mJ, mJ, mJ, mJ, mJ] [] w) := by
  refine Eq.trans (X_iconst f_169_315 kc_i_3) ?_
  refine Eq.trans (X_br f_169_316 rfl rfl) ?_
  exact mIte_eq (mX_maskK lm_169_321 rfl) (mX_maskK lm_169_319 rfl)
theorem b_169_319 {d : Nat} {w : MW} : mX d 169 319 [mJ, mJ, mJ, mJ, mJ, mJ, mJ, mJ, mJ, mJ, mJ, mJ, mJ, mJ, mJ, mJ, mJ, mJ, mJ, mJ, mJ, mJ, mJ, mJ, mJ, mJ, mJ, mJ, mJ, mJ, mJ, mJ] [] w = some (.inl (some (.int (nI 0))), w) := by
  refine Eq.trans (X_iconst f_169_319 kc_i_0) ?_
  exact X_ireturn f_169_320 rfl
theorem b_169_321 {d : Nat} {a0 : Nat} {a1 : Nat} {a3 : Nat} {x4 : Int32} {x5 : Int32} {x6 : Int32} {x7 : Int32} {l9 : Int64} {x11 : Int32} {x12 : Int32} {x13 : Int32} {x14 : Int32} {x15 : Int32} {x16 : Int32} {x17 : Int32} {x18 : Int32} {a19 : Nat} {a20 : Nat} {x21 : Int32} {x22 : Int32} {w : MW} : mX d 169 321 [.ref a0, .ref a1, mJ, .ref a3, .int x4, .int x5, .int x6, .int x7, mJ, .long l9, mJ, .int x11, .int x12, .int x13, .int x14, .int x15, .int x16, .int x17, .int x18, .ref a19, .ref a20, .int x21, .int x22, mJ, mJ, mJ, mJ, mJ, mJ, mJ, mJ, mJ] [] w = mX d 169 324 [.ref a0, .ref a1, mJ, .ref a3, .int x4, .int x5, .int x6, .int x7, mJ, .long l9, mJ, .int x11, .int x12, .int x13, .int x14, .int x15, .int x16, .int x17, .int x18, .ref a19, .ref a20, .int x21, .int x22, .int (nI 0), mJ, mJ, mJ, mJ, mJ, mJ, mJ, mJ] [] w := by
  refine Eq.trans (X_iconst f_169_321 kc_i_0) ?_
  refine Eq.trans (X_istore (L' := [.ref a0, .ref a1, mJ, .ref a3, .int x4, .int x5, .int x6, .int x7, mJ, .long l9, mJ, .int x11, .int x12, .int x13, .int x14, .int x15, .int x16, .int x17, .int x18, .ref a19, .ref a20, .int x21, .int x22, .int (nI 0), mJ, mJ, mJ, mJ, mJ, mJ, mJ, mJ]) f_169_322 (Nat.le_of_ble_eq_true rfl) rfl) ?_
  exact mX_maskK lm_169_324 rfl
theorem b_169_324 {d : Nat} {a0 : Nat} {a1 : Nat} {a3 : Nat} {x4 : Int32} {x5 : Int32} {x6 : Int32} {x7 : Int32} {l9 : Int64} {x11 : Int32} {x12 : Int32} {x13 : Int32} {x14 : Int32} {x15 : Int32} {x16 : Int32} {x17 : Int32} {x18 : Int32} {a19 : Nat} {a20 : Nat} {x21 : Int32} {x22 : Int32} {x23 : Int32} {w : MW} : mX d 169 324 [.ref a0, .ref a1, mJ, .ref a3, .int x4, .int x5, .int x6, .int x7, mJ, .long l9, mJ, .int x11, .int x12, .int x13, .int x14, .int x15, .int x16, .int x17, .int x18, .ref a19, .ref a20, .int x21, .int x22, .int x23, mJ, mJ, mJ, mJ, mJ, mJ, mJ, mJ] [] w = (if x4 ≤ x23 then mX d 169 437 [.ref a0, .ref a1, mJ, .ref a3, .int x4, .int x5, .int x6, .int x7, mJ, .long l9, mJ, .int x11, .int x12, .int x13, .int x14, .int x15, .int x16, .int x17, .int x18, .ref a19, .ref a20, .int x21, mJ, mJ, mJ, mJ, mJ, mJ, mJ, mJ, mJ, mJ] [] w else mX d 169 331 [.ref a0, .ref a1, mJ, .ref a3, .int x4, .int x5, .int x6, .int x7, mJ, .long l9, mJ, .int x11, .int x12, .int x13, .int x14, .int x15, .int x16, .int x17, .int x18, .ref a19, .ref a20, .int x21, .int x22, .int x23, mJ, mJ, mJ, mJ, mJ, mJ, mJ, mJ] [] w) := by
  refine Eq.trans (X_st f_169_324 rfl rfl) ?_
  refine Eq.trans (X_st f_169_326 rfl rfl) ?_
  refine Eq.trans (X_br f_169_328 rfl rfl) ?_
  exact mIte_eq (mX_maskK lm_169_437 rfl) (mX_maskK lm_169_331 rfl)
theorem b_169_331 {d : Nat} {a0 : Nat} {a1 : Nat} {a3 : Nat} {x4 : Int32} {x5 : Int32} {x6 : Int32} {x7 : Int32} {l9 : Int64} {x11 : Int32} {x12 : Int32} {x13 : Int32} {x14 : Int32} {x15 : Int32} {x16 : Int32} {x17 : Int32} {x18 : Int32} {a19 : Nat} {a20 : Nat} {x21 : Int32} {x22 : Int32} {x23 : Int32} {w : MW} (h0 : mTg w a1 = 9) : mX (d + 1) 169 331 [.ref a0, .ref a1, mJ, .ref a3, .int x4, .int x5, .int x6, .int x7, mJ, .long l9, mJ, .int x11, .int x12, .int x13, .int x14, .int x15, .int x16, .int x17, .int x18, .ref a19, .ref a20, .int x21, .int x22, .int x23, mJ, mJ, mJ, mJ, mJ, mJ, mJ, mJ] [] w = mThen (mK d 103 [.ref a1, .int x21, .int (nI 8)] w) (fun v w9 => mX (d + 1) 169 339 [.ref a0, .ref a1, mJ, .ref a3, .int x4, .int x5, .int x6, .int x7, mJ, .long l9, mJ, .int x11, .int x12, .int x13, .int x14, .int x15, .int x16, .int x17, .int x18, .ref a19, .ref a20, .int x21, .int x22, .int x23, mJ, mJ, mJ, mJ, mJ, mJ, mJ, mJ] (v.toList ++ []) w9) := by
  refine Eq.trans (X_st f_169_331 rfl rfl) ?_
  refine Eq.trans (X_st f_169_332 rfl rfl) ?_
  refine Eq.trans (X_bipush f_169_334 kc_b_8) ?_
  refine Eq.trans (X_call f_169_336 (by decide) rfl rfl rfl rfl rfl rfl (Nat.le_of_ble_eq_true rfl) (Nat.le_of_ble_eq_true rfl) (decide_eq_true h0) (Nat.le_of_ble_eq_true rfl)) ?_
  exact mThen_eq fun v w9 => mX_maskK lm_169_339 rfl
theorem b_169_339 {d : Nat} {a0 : Nat} {a1 : Nat} {a3 : Nat} {x4 : Int32} {x5 : Int32} {x6 : Int32} {x7 : Int32} {l9 : Int64} {x11 : Int32} {x12 : Int32} {x13 : Int32} {x14 : Int32} {x15 : Int32} {x16 : Int32} {x17 : Int32} {x18 : Int32} {a19 : Nat} {a20 : Nat} {x21 : Int32} {x22 : Int32} {x23 : Int32} {y0 : Int32} {w : MW} (h0 : mTg w a1 = 9) : mX (d + 1) 169 339 [.ref a0, .ref a1, mJ, .ref a3, .int x4, .int x5, .int x6, .int x7, mJ, .long l9, mJ, .int x11, .int x12, .int x13, .int x14, .int x15, .int x16, .int x17, .int x18, .ref a19, .ref a20, .int x21, .int x22, .int x23, mJ, mJ, mJ, mJ, mJ, mJ, mJ, mJ] [.int y0] w = mThen (mK d 103 [.ref a1, .int x23, .int (nI 8)] w) (fun v w9 => mX (d + 1) 169 347 [.ref a0, .ref a1, mJ, .ref a3, .int x4, .int x5, .int x6, .int x7, mJ, .long l9, mJ, .int x11, .int x12, .int x13, .int x14, .int x15, .int x16, .int x17, .int x18, .ref a19, .ref a20, .int x21, .int x22, .int x23, mJ, mJ, mJ, mJ, mJ, mJ, mJ, mJ] (v.toList ++ [.int y0]) w9) := by
  refine Eq.trans (X_st f_169_339 rfl rfl) ?_
  refine Eq.trans (X_st f_169_340 rfl rfl) ?_
  refine Eq.trans (X_bipush f_169_342 kc_b_8) ?_
  refine Eq.trans (X_call f_169_344 (by decide) rfl rfl rfl rfl rfl rfl (Nat.le_of_ble_eq_true rfl) (Nat.le_of_ble_eq_true rfl) (decide_eq_true h0) (Nat.le_of_ble_eq_true rfl)) ?_
  exact mThen_eq fun v w9 => mX_maskK lm_169_347 rfl
theorem b_169_347 {d : Nat} {a0 : Nat} {a1 : Nat} {a3 : Nat} {x4 : Int32} {x5 : Int32} {x6 : Int32} {x7 : Int32} {l9 : Int64} {x11 : Int32} {x12 : Int32} {x13 : Int32} {x14 : Int32} {x15 : Int32} {x16 : Int32} {x17 : Int32} {x18 : Int32} {a19 : Nat} {a20 : Nat} {x21 : Int32} {x22 : Int32} {x23 : Int32} {y0 : Int32} {y1 : Int32} {w : MW} : mX d 169 347 [.ref a0, .ref a1, mJ, .ref a3, .int x4, .int x5, .int x6, .int x7, mJ, .long l9, mJ, .int x11, .int x12, .int x13, .int x14, .int x15, .int x16, .int x17, .int x18, .ref a19, .ref a20, .int x21, .int x22, .int x23, mJ, mJ, mJ, mJ, mJ, mJ, mJ, mJ] [.int y0, .int y1] w = (if y1 < y0 then mX d 169 353 [.ref a0, .ref a1, mJ, .ref a3, .int x4, .int x5, .int x6, .int x7, mJ, .long l9, mJ, .int x11, .int x12, .int x13, .int x14, .int x15, .int x16, .int x17, .int x18, .ref a19, .ref a20, .int x21, .int x22, .int x23, mJ, mJ, mJ, mJ, mJ, mJ, mJ, mJ] [] w else mX d 169 350 [.ref a0, .ref a1, mJ, .ref a3, .int x4, .int x5, .int x6, .int x7, mJ, .long l9, mJ, .int x11, .int x12, .int x13, .int x14, .int x15, .int x16, .int x17, .int x18, .ref a19, .ref a20, .int x21, .int x22, .int x23, mJ, mJ, mJ, mJ, mJ, mJ, mJ, mJ] [] w) := by
  refine Eq.trans (X_br f_169_347 rfl rfl) ?_
  exact mIte_eq (mX_maskK lm_169_353 rfl) (mX_maskK lm_169_350 rfl)
theorem b_169_350 {d : Nat} {a0 : Nat} {a1 : Nat} {a3 : Nat} {x4 : Int32} {x5 : Int32} {x6 : Int32} {x7 : Int32} {l9 : Int64} {x11 : Int32} {x12 : Int32} {x13 : Int32} {x14 : Int32} {x15 : Int32} {x16 : Int32} {x17 : Int32} {x18 : Int32} {a19 : Nat} {a20 : Nat} {x21 : Int32} {x22 : Int32} {x23 : Int32} {w : MW} : mX d 169 350 [.ref a0, .ref a1, mJ, .ref a3, .int x4, .int x5, .int x6, .int x7, mJ, .long l9, mJ, .int x11, .int x12, .int x13, .int x14, .int x15, .int x16, .int x17, .int x18, .ref a19, .ref a20, .int x21, .int x22, .int x23, mJ, mJ, mJ, mJ, mJ, mJ, mJ, mJ] [] w = mX d 169 431 [.ref a0, .ref a1, mJ, .ref a3, .int x4, .int x5, .int x6, .int x7, mJ, .long l9, mJ, .int x11, .int x12, .int x13, .int x14, .int x15, .int x16, .int x17, .int x18, .ref a19, .ref a20, .int x21, .int x22, .int x23, mJ, mJ, mJ, mJ, mJ, mJ, mJ, mJ] [] w := by
  refine Eq.trans (X_st f_169_350 rfl rfl) ?_
  exact mX_maskK lm_169_431 rfl
theorem b_169_353 {d : Nat} {a0 : Nat} {a1 : Nat} {a3 : Nat} {x4 : Int32} {x5 : Int32} {x6 : Int32} {x7 : Int32} {l9 : Int64} {x11 : Int32} {x12 : Int32} {x13 : Int32} {x14 : Int32} {x15 : Int32} {x16 : Int32} {x17 : Int32} {x18 : Int32} {a19 : Nat} {a20 : Nat} {x21 : Int32} {x22 : Int32} {x23 : Int32} {w : MW} (h0 : mTg w a1 = 9) : mX (d + 1) 169 353 [.ref a0, .ref a1, mJ, .ref a3, .int x4, .int x5, .int x6, .int x7, mJ, .long l9, mJ, .int x11, .int x12, .int x13, .int x14, .int x15, .int x16, .int x17, .int x18, .ref a19, .ref a20, .int x21, .int x22, .int x23, mJ, mJ, mJ, mJ, mJ, mJ, mJ, mJ] [] w = mThen (mK d 103 [.ref a1, .int x23, .int (nI 0)] w) (fun v w9 => mX (d + 1) 169 360 [.ref a0, .ref a1, mJ, .ref a3, .int x4, .int x5, .int x6, .int x7, mJ, .long l9, mJ, .int x11, .int x12, .int x13, .int x14, .int x15, .int x16, .int x17, .int x18, .ref a19, .ref a20, .int x21, .int x22, .int x23, mJ, mJ, mJ, mJ, mJ, mJ, mJ, mJ] (v.toList ++ []) w9) := by
  refine Eq.trans (X_st f_169_353 rfl rfl) ?_
  refine Eq.trans (X_st f_169_354 rfl rfl) ?_
  refine Eq.trans (X_iconst f_169_356 kc_i_0) ?_
  refine Eq.trans (X_call f_169_357 (by decide) rfl rfl rfl rfl rfl rfl (Nat.le_of_ble_eq_true rfl) (Nat.le_of_ble_eq_true rfl) (decide_eq_true h0) (Nat.le_of_ble_eq_true rfl)) ?_
  exact mThen_eq fun v w9 => mX_maskK lm_169_360 rfl
theorem b_169_360 {d : Nat} {a0 : Nat} {a1 : Nat} {a3 : Nat} {x4 : Int32} {x5 : Int32} {x6 : Int32} {x7 : Int32} {l9 : Int64} {x11 : Int32} {x12 : Int32} {x13 : Int32} {x14 : Int32} {x15 : Int32} {x16 : Int32} {x17 : Int32} {x18 : Int32} {a19 : Nat} {a20 : Nat} {x21 : Int32} {x22 : Int32} {x23 : Int32} {y0 : Int32} {w : MW} : mX d 169 360 [.ref a0, .ref a1, mJ, .ref a3, .int x4, .int x5, .int x6, .int x7, mJ, .long l9, mJ, .int x11, .int x12, .int x13, .int x14, .int x15, .int x16, .int x17, .int x18, .ref a19, .ref a20, .int x21, .int x22, .int x23, mJ, mJ, mJ, mJ, mJ, mJ, mJ, mJ] [.int y0] w = (if ¬ y0 = (nI 1) then mX d 169 368 [.ref a0, .ref a1, mJ, .ref a3, .int x4, .int x5, .int x6, .int x7, mJ, .long l9, mJ, .int x11, .int x12, .int x13, .int x14, .int x15, .int x16, .int x17, .int x18, .ref a19, .ref a20, .int x21, .int x22, .int x23, mJ, mJ, mJ, mJ, mJ, mJ, mJ, mJ] [] w else mX d 169 364 [.ref a0, .ref a1, mJ, .ref a3, .int x4, .int x5, .int x6, .int x7, mJ, .long l9, mJ, .int x11, .int x12, .int x13, .int x14, .int x15, .int x16, .int x17, .int x18, .ref a19, .ref a20, .int x21, .int x22, .int x23, mJ, mJ, mJ, mJ, mJ, mJ, mJ, mJ] [] w) := by
  refine Eq.trans (X_iconst f_169_360 kc_i_1) ?_
  refine Eq.trans (X_br f_169_361 rfl rfl) ?_
  exact mIte_eq (mX_maskK lm_169_368 rfl) (mX_maskK lm_169_364 rfl)
theorem b_169_364 {d : Nat} {a0 : Nat} {a1 : Nat} {a3 : Nat} {x4 : Int32} {x5 : Int32} {x6 : Int32} {x7 : Int32} {l9 : Int64} {x11 : Int32} {x12 : Int32} {x13 : Int32} {x14 : Int32} {x15 : Int32} {x16 : Int32} {x17 : Int32} {x18 : Int32} {a19 : Nat} {a20 : Nat} {x21 : Int32} {x22 : Int32} {x23 : Int32} {w : MW} : mX d 169 364 [.ref a0, .ref a1, mJ, .ref a3, .int x4, .int x5, .int x6, .int x7, mJ, .long l9, mJ, .int x11, .int x12, .int x13, .int x14, .int x15, .int x16, .int x17, .int x18, .ref a19, .ref a20, .int x21, .int x22, .int x23, mJ, mJ, mJ, mJ, mJ, mJ, mJ, mJ] [] w = mX d 169 369 [.ref a0, .ref a1, mJ, .ref a3, .int x4, .int x5, .int x6, .int x7, mJ, .long l9, mJ, .int x11, .int x12, .int x13, .int x14, .int x15, .int x16, .int x17, .int x18, .ref a19, .ref a20, .int x21, .int x22, .int x23, mJ, mJ, mJ, mJ, mJ, mJ, mJ, mJ] [.int (nI 1)] w := by
  refine Eq.trans (X_iconst f_169_364 kc_i_1) ?_
  refine Eq.trans (X_st f_169_365 rfl rfl) ?_
  exact mX_maskK lm_169_369 rfl
theorem b_169_368 {d : Nat} {a0 : Nat} {a1 : Nat} {a3 : Nat} {x4 : Int32} {x5 : Int32} {x6 : Int32} {x7 : Int32} {l9 : Int64} {x11 : Int32} {x12 : Int32} {x13 : Int32} {x14 : Int32} {x15 : Int32} {x16 : Int32} {x17 : Int32} {x18 : Int32} {a19 : Nat} {a20 : Nat} {x21 : Int32} {x22 : Int32} {x23 : Int32} {w : MW} : mX d 169 368 [.ref a0, .ref a1, mJ, .ref a3, .int x4, .int x5, .int x6, .int x7, mJ, .long l9, mJ, .int x11, .int x12, .int x13, .int x14, .int x15, .int x16, .int x17, .int x18, .ref a19, .ref a20, .int x21, .int x22, .int x23, mJ, mJ, mJ, mJ, mJ, mJ, mJ, mJ] [] w = mX d 169 369 [.ref a0, .ref a1, mJ, .ref a3, .int x4, .int x5, .int x6, .int x7, mJ, .long l9, mJ, .int x11, .int x12, .int x13, .int x14, .int x15, .int x16, .int x17, .int x18, .ref a19, .ref a20, .int x21, .int x22, .int x23, mJ, mJ, mJ, mJ, mJ, mJ, mJ, mJ] [.int (nI 0)] w := by
  refine Eq.trans (X_iconst f_169_368 kc_i_0) ?_
  exact mX_maskK lm_169_369 rfl
theorem b_169_369 {d : Nat} {a0 : Nat} {a1 : Nat} {a3 : Nat} {x4 : Int32} {x5 : Int32} {x6 : Int32} {x7 : Int32} {l9 : Int64} {x11 : Int32} {x12 : Int32} {x13 : Int32} {x14 : Int32} {x15 : Int32} {x16 : Int32} {x17 : Int32} {x18 : Int32} {a19 : Nat} {a20 : Nat} {x21 : Int32} {x22 : Int32} {x23 : Int32} {y0 : Int32} {w : MW} : mX d 169 369 [.ref a0, .ref a1, mJ, .ref a3, .int x4, .int x5, .int x6, .int x7, mJ, .long l9, mJ, .int x11, .int x12, .int x13, .int x14, .int x15, .int x16, .int x17, .int x18, .ref a19, .ref a20, .int x21, .int x22, .int x23, mJ, mJ, mJ, mJ, mJ, mJ, mJ, mJ] [.int y0] w = (if y0 = nI 0 then mX d 169 381 [.ref a0, .ref a1, mJ, .ref a3, .int x4, .int x5, .int x6, .int x7, mJ, .long l9, mJ, .int x11, .int x12, .int x13, .int x14, .int x15, .int x16, .int x17, .int x18, .ref a19, .ref a20, .int x21, .int x22, .int x23, .int y0, mJ, mJ, mJ, mJ, mJ, mJ, mJ] [] w else mX d 169 376 [.ref a0, .ref a1, mJ, .ref a3, .int x4, .int x5, .int x6, .int x7, mJ, .long l9, mJ, .int x11, .int x12, .int x13, .int x14, .int x15, .int x16, .int x17, .int x18, .ref a19, .ref a20, .int x21, .int x22, .int x23, .int y0, mJ, mJ, mJ, mJ, mJ, mJ, mJ] [] w) := by
  refine Eq.trans (X_istore (L' := [.ref a0, .ref a1, mJ, .ref a3, .int x4, .int x5, .int x6, .int x7, mJ, .long l9, mJ, .int x11, .int x12, .int x13, .int x14, .int x15, .int x16, .int x17, .int x18, .ref a19, .ref a20, .int x21, .int x22, .int x23, .int y0, mJ, mJ, mJ, mJ, mJ, mJ, mJ]) f_169_369 (Nat.le_of_ble_eq_true rfl) rfl) ?_
  refine Eq.trans (X_st f_169_371 rfl rfl) ?_
  refine Eq.trans (X_br f_169_373 rfl rfl) ?_
  exact mIte_eq (mX_maskK lm_169_381 rfl) (mX_maskK lm_169_376 rfl)
theorem b_169_376 {d : Nat} {a0 : Nat} {a1 : Nat} {a3 : Nat} {x4 : Int32} {x5 : Int32} {x6 : Int32} {x7 : Int32} {l9 : Int64} {x11 : Int32} {x12 : Int32} {x13 : Int32} {x14 : Int32} {x15 : Int32} {x16 : Int32} {x17 : Int32} {x18 : Int32} {a19 : Nat} {a20 : Nat} {x21 : Int32} {x22 : Int32} {x23 : Int32} {x24 : Int32} {w : MW} : mX d 169 376 [.ref a0, .ref a1, mJ, .ref a3, .int x4, .int x5, .int x6, .int x7, mJ, .long l9, mJ, .int x11, .int x12, .int x13, .int x14, .int x15, .int x16, .int x17, .int x18, .ref a19, .ref a20, .int x21, .int x22, .int x23, .int x24, mJ, mJ, mJ, mJ, mJ, mJ, mJ] [] w = (if x22 = nI 0 then mX d 169 429 [mJ, mJ, mJ, mJ, mJ, mJ, mJ, mJ, mJ, mJ, mJ, mJ, mJ, mJ, mJ, mJ, mJ, mJ, mJ, mJ, mJ, mJ, mJ, mJ, mJ, mJ, mJ, mJ, mJ, mJ, mJ, mJ] [] w else mX d 169 381 [.ref a0, .ref a1, mJ, .ref a3, .int x4, .int x5, .int x6, .int x7, mJ, .long l9, mJ, .int x11, .int x12, .int x13, .int x14, .int x15, .int x16, .int x17, .int x18, .ref a19, .ref a20, .int x21, .int x22, .int x23, .int x24, mJ, mJ, mJ, mJ, mJ, mJ, mJ] [] w) := by
  refine Eq.trans (X_st f_169_376 rfl rfl) ?_
  refine Eq.trans (X_br f_169_378 rfl rfl) ?_
  exact mIte_eq (mX_maskK lm_169_429 rfl) (mX_maskK lm_169_381 rfl)
theorem b_169_381 {d : Nat} {a0 : Nat} {a1 : Nat} {a3 : Nat} {x4 : Int32} {x5 : Int32} {x6 : Int32} {x7 : Int32} {l9 : Int64} {x11 : Int32} {x12 : Int32} {x13 : Int32} {x14 : Int32} {x15 : Int32} {x16 : Int32} {x17 : Int32} {x18 : Int32} {a19 : Nat} {a20 : Nat} {x21 : Int32} {x22 : Int32} {x23 : Int32} {x24 : Int32} {w : MW} : mX d 169 381 [.ref a0, .ref a1, mJ, .ref a3, .int x4, .int x5, .int x6, .int x7, mJ, .long l9, mJ, .int x11, .int x12, .int x13, .int x14, .int x15, .int x16, .int x17, .int x18, .ref a19, .ref a20, .int x21, .int x22, .int x23, .int x24, mJ, mJ, mJ, mJ, mJ, mJ, mJ] [] w = (if ¬ x22 = x24 then mX d 169 431 [.ref a0, .ref a1, mJ, .ref a3, .int x4, .int x5, .int x6, .int x7, mJ, .long l9, mJ, .int x11, .int x12, .int x13, .int x14, .int x15, .int x16, .int x17, .int x18, .ref a19, .ref a20, .int x21, .int x22, .int x23, mJ, mJ, mJ, mJ, mJ, mJ, mJ, mJ] [] w else mX d 169 388 [.ref a0, .ref a1, mJ, .ref a3, .int x4, .int x5, .int x6, .int x7, mJ, .long l9, mJ, .int x11, .int x12, .int x13, .int x14, .int x15, .int x16, .int x17, .int x18, .ref a19, .ref a20, .int x21, .int x22, .int x23, mJ, mJ, mJ, mJ, mJ, mJ, mJ, mJ] [] w) := by
  refine Eq.trans (X_st f_169_381 rfl rfl) ?_
  refine Eq.trans (X_st f_169_383 rfl rfl) ?_
  refine Eq.trans (X_br f_169_385 rfl rfl) ?_
  exact mIte_eq (mX_maskK lm_169_431 rfl) (mX_maskK lm_169_388 rfl)
theorem b_169_388 {d : Nat} {a0 : Nat} {a1 : Nat} {a3 : Nat} {x4 : Int32} {x5 : Int32} {x6 : Int32} {x7 : Int32} {l9 : Int64} {x11 : Int32} {x12 : Int32} {x13 : Int32} {x14 : Int32} {x15 : Int32} {x16 : Int32} {x17 : Int32} {x18 : Int32} {a19 : Nat} {a20 : Nat} {x21 : Int32} {x22 : Int32} {x23 : Int32} {w : MW} (h0 : mTg w a1 = 9) : mX (d + 1) 169 388 [.ref a0, .ref a1, mJ, .ref a3, .int x4, .int x5, .int x6, .int x7, mJ, .long l9, mJ, .int x11, .int x12, .int x13, .int x14, .int x15, .int x16, .int x17, .int x18, .ref a19, .ref a20, .int x21, .int x22, .int x23, mJ, mJ, mJ, mJ, mJ, mJ, mJ, mJ] [] w = mThen (mK d 103 [.ref a1, .int x21, .int (nI 1)] w) (fun v w9 => mX (d + 1) 169 395 [.ref a0, .ref a1, mJ, .ref a3, .int x4, .int x5, .int x6, .int x7, mJ, .long l9, mJ, .int x11, .int x12, .int x13, .int x14, .int x15, .int x16, .int x17, .int x18, .ref a19, .ref a20, .int x21, .int x22, .int x23, mJ, mJ, mJ, mJ, mJ, mJ, mJ, mJ] (v.toList ++ []) w9) := by
  refine Eq.trans (X_st f_169_388 rfl rfl) ?_
  refine Eq.trans (X_st f_169_389 rfl rfl) ?_
  refine Eq.trans (X_iconst f_169_391 kc_i_1) ?_
  refine Eq.trans (X_call f_169_392 (by decide) rfl rfl rfl rfl rfl rfl (Nat.le_of_ble_eq_true rfl) (Nat.le_of_ble_eq_true rfl) (decide_eq_true h0) (Nat.le_of_ble_eq_true rfl)) ?_
  exact mThen_eq fun v w9 => mX_maskK lm_169_395 rfl
theorem b_169_395 {d : Nat} {a0 : Nat} {a1 : Nat} {a3 : Nat} {x4 : Int32} {x5 : Int32} {x6 : Int32} {x7 : Int32} {l9 : Int64} {x11 : Int32} {x12 : Int32} {x13 : Int32} {x14 : Int32} {x15 : Int32} {x16 : Int32} {x17 : Int32} {x18 : Int32} {a19 : Nat} {a20 : Nat} {x21 : Int32} {x22 : Int32} {x23 : Int32} {y0 : Int32} {w : MW} (h0 : mTg w a1 = 9) : mX (d + 1) 169 395 [.ref a0, .ref a1, mJ, .ref a3, .int x4, .int x5, .int x6, .int x7, mJ, .long l9, mJ, .int x11, .int x12, .int x13, .int x14, .int x15, .int x16, .int x17, .int x18, .ref a19, .ref a20, .int x21, .int x22, .int x23, mJ, mJ, mJ, mJ, mJ, mJ, mJ, mJ] [.int y0] w = mThen (mK d 103 [.ref a1, .int x23, .int (nI 1)] w) (fun v w9 => mX (d + 1) 169 402 [.ref a0, .ref a1, mJ, .ref a3, .int x4, .int x5, .int x6, .int x7, mJ, .long l9, mJ, .int x11, .int x12, .int x13, .int x14, .int x15, .int x16, .int x17, .int x18, .ref a19, .ref a20, .int x21, .int x22, .int x23, mJ, mJ, mJ, mJ, mJ, mJ, mJ, mJ] (v.toList ++ [.int y0]) w9) := by
  refine Eq.trans (X_st f_169_395 rfl rfl) ?_
  refine Eq.trans (X_st f_169_396 rfl rfl) ?_
  refine Eq.trans (X_iconst f_169_398 kc_i_1) ?_
  refine Eq.trans (X_call f_169_399 (by decide) rfl rfl rfl rfl rfl rfl (Nat.le_of_ble_eq_true rfl) (Nat.le_of_ble_eq_true rfl) (decide_eq_true h0) (Nat.le_of_ble_eq_true rfl)) ?_
  exact mThen_eq fun v w9 => mX_maskK lm_169_402 rfl
theorem b_169_402 {d : Nat} {a0 : Nat} {a1 : Nat} {a3 : Nat} {x4 : Int32} {x5 : Int32} {x6 : Int32} {x7 : Int32} {l9 : Int64} {x11 : Int32} {x12 : Int32} {x13 : Int32} {x14 : Int32} {x15 : Int32} {x16 : Int32} {x17 : Int32} {x18 : Int32} {a19 : Nat} {a20 : Nat} {x21 : Int32} {x22 : Int32} {x23 : Int32} {y0 : Int32} {y1 : Int32} {w : MW} : mX d 169 402 [.ref a0, .ref a1, mJ, .ref a3, .int x4, .int x5, .int x6, .int x7, mJ, .long l9, mJ, .int x11, .int x12, .int x13, .int x14, .int x15, .int x16, .int x17, .int x18, .ref a19, .ref a20, .int x21, .int x22, .int x23, mJ, mJ, mJ, mJ, mJ, mJ, mJ, mJ] [.int y0, .int y1] w = (if y1 < y0 then mX d 169 429 [mJ, mJ, mJ, mJ, mJ, mJ, mJ, mJ, mJ, mJ, mJ, mJ, mJ, mJ, mJ, mJ, mJ, mJ, mJ, mJ, mJ, mJ, mJ, mJ, mJ, mJ, mJ, mJ, mJ, mJ, mJ, mJ] [] w else mX d 169 405 [.ref a0, .ref a1, mJ, .ref a3, .int x4, .int x5, .int x6, .int x7, mJ, .long l9, mJ, .int x11, .int x12, .int x13, .int x14, .int x15, .int x16, .int x17, .int x18, .ref a19, .ref a20, .int x21, .int x22, .int x23, mJ, mJ, mJ, mJ, mJ, mJ, mJ, mJ] [] w) := by
  refine Eq.trans (X_br f_169_402 rfl rfl) ?_
  exact mIte_eq (mX_maskK lm_169_429 rfl) (mX_maskK lm_169_405 rfl)
theorem b_169_405 {d : Nat} {a0 : Nat} {a1 : Nat} {a3 : Nat} {x4 : Int32} {x5 : Int32} {x6 : Int32} {x7 : Int32} {l9 : Int64} {x11 : Int32} {x12 : Int32} {x13 : Int32} {x14 : Int32} {x15 : Int32} {x16 : Int32} {x17 : Int32} {x18 : Int32} {a19 : Nat} {a20 : Nat} {x21 : Int32} {x22 : Int32} {x23 : Int32} {w : MW} (h0 : mTg w a1 = 9) : mX (d + 1) 169 405 [.ref a0, .ref a1, mJ, .ref a3, .int x4, .int x5, .int x6, .int x7, mJ, .long l9, mJ, .int x11, .int x12, .int x13, .int x14, .int x15, .int x16, .int x17, .int x18, .ref a19, .ref a20, .int x21, .int x22, .int x23, mJ, mJ, mJ, mJ, mJ, mJ, mJ, mJ] [] w = mThen (mK d 103 [.ref a1, .int x21, .int (nI 1)] w) (fun v w9 => mX (d + 1) 169 412 [.ref a0, .ref a1, mJ, .ref a3, .int x4, .int x5, .int x6, .int x7, mJ, .long l9, mJ, .int x11, .int x12, .int x13, .int x14, .int x15, .int x16, .int x17, .int x18, .ref a19, .ref a20, .int x21, .int x22, .int x23, mJ, mJ, mJ, mJ, mJ, mJ, mJ, mJ] (v.toList ++ []) w9) := by
  refine Eq.trans (X_st f_169_405 rfl rfl) ?_
  refine Eq.trans (X_st f_169_406 rfl rfl) ?_
  refine Eq.trans (X_iconst f_169_408 kc_i_1) ?_
  refine Eq.trans (X_call f_169_409 (by decide) rfl rfl rfl rfl rfl rfl (Nat.le_of_ble_eq_true rfl) (Nat.le_of_ble_eq_true rfl) (decide_eq_true h0) (Nat.le_of_ble_eq_true rfl)) ?_
  exact mThen_eq fun v w9 => mX_maskK lm_169_412 rfl
theorem b_169_412 {d : Nat} {a0 : Nat} {a1 : Nat} {a3 : Nat} {x4 : Int32} {x5 : Int32} {x6 : Int32} {x7 : Int32} {l9 : Int64} {x11 : Int32} {x12 : Int32} {x13 : Int32} {x14 : Int32} {x15 : Int32} {x16 : Int32} {x17 : Int32} {x18 : Int32} {a19 : Nat} {a20 : Nat} {x21 : Int32} {x22 : Int32} {x23 : Int32} {y0 : Int32} {w : MW} (h0 : mTg w a1 = 9) : mX (d + 1) 169 412 [.ref a0, .ref a1, mJ, .ref a3, .int x4, .int x5, .int x6, .int x7, mJ, .long l9, mJ, .int x11, .int x12, .int x13, .int x14, .int x15, .int x16, .int x17, .int x18, .ref a19, .ref a20, .int x21, .int x22, .int x23, mJ, mJ, mJ, mJ, mJ, mJ, mJ, mJ] [.int y0] w = mThen (mK d 103 [.ref a1, .int x23, .int (nI 1)] w) (fun v w9 => mX (d + 1) 169 419 [.ref a0, .ref a1, mJ, .ref a3, .int x4, .int x5, .int x6, .int x7, mJ, .long l9, mJ, .int x11, .int x12, .int x13, .int x14, .int x15, .int x16, .int x17, .int x18, .ref a19, .ref a20, .int x21, .int x22, .int x23, mJ, mJ, mJ, mJ, mJ, mJ, mJ, mJ] (v.toList ++ [.int y0]) w9) := by
  refine Eq.trans (X_st f_169_412 rfl rfl) ?_
  refine Eq.trans (X_st f_169_413 rfl rfl) ?_
  refine Eq.trans (X_iconst f_169_415 kc_i_1) ?_
  refine Eq.trans (X_call f_169_416 (by decide) rfl rfl rfl rfl rfl rfl (Nat.le_of_ble_eq_true rfl) (Nat.le_of_ble_eq_true rfl) (decide_eq_true h0) (Nat.le_of_ble_eq_true rfl)) ?_
  exact mThen_eq fun v w9 => mX_maskK lm_169_419 rfl
theorem b_169_419 {d : Nat} {a0 : Nat} {a1 : Nat} {a3 : Nat} {x4 : Int32} {x5 : Int32} {x6 : Int32} {x7 : Int32} {l9 : Int64} {x11 : Int32} {x12 : Int32} {x13 : Int32} {x14 : Int32} {x15 : Int32} {x16 : Int32} {x17 : Int32} {x18 : Int32} {a19 : Nat} {a20 : Nat} {x21 : Int32} {x22 : Int32} {x23 : Int32} {y0 : Int32} {y1 : Int32} {w : MW} : mX d 169 419 [.ref a0, .ref a1, mJ, .ref a3, .int x4, .int x5, .int x6, .int x7, mJ, .long l9, mJ, .int x11, .int x12, .int x13, .int x14, .int x15, .int x16, .int x17, .int x18, .ref a19, .ref a20, .int x21, .int x22, .int x23, mJ, mJ, mJ, mJ, mJ, mJ, mJ, mJ] [.int y0, .int y1] w = (if ¬ y1 = y0 then mX d 169 431 [.ref a0, .ref a1, mJ, .ref a3, .int x4, .int x5, .int x6, .int x7, mJ, .long l9, mJ, .int x11, .int x12, .int x13, .int x14, .int x15, .int x16, .int x17, .int x18, .ref a19, .ref a20, .int x21, .int x22, .int x23, mJ, mJ, mJ, mJ, mJ, mJ, mJ, mJ] [] w else mX d 169 422 [.ref a0, .ref a1, mJ, .ref a3, .int x4, .int x5, .int x6, .int x7, mJ, .long l9, mJ, .int x11, .int x12, .int x13, .int x14, .int x15, .int x16, .int x17, .int x18, .ref a19, .ref a20, .int x21, .int x22, .int x23, mJ, mJ, mJ, mJ, mJ, mJ, mJ, mJ] [] w) := by
  refine Eq.trans (X_br f_169_419 rfl rfl) ?_
  exact mIte_eq (mX_maskK lm_169_431 rfl) (mX_maskK lm_169_422 rfl)
theorem b_169_422 {d : Nat} {a0 : Nat} {a1 : Nat} {a3 : Nat} {x4 : Int32} {x5 : Int32} {x6 : Int32} {x7 : Int32} {l9 : Int64} {x11 : Int32} {x12 : Int32} {x13 : Int32} {x14 : Int32} {x15 : Int32} {x16 : Int32} {x17 : Int32} {x18 : Int32} {a19 : Nat} {a20 : Nat} {x21 : Int32} {x22 : Int32} {x23 : Int32} {w : MW} : mX d 169 422 [.ref a0, .ref a1, mJ, .ref a3, .int x4, .int x5, .int x6, .int x7, mJ, .long l9, mJ, .int x11, .int x12, .int x13, .int x14, .int x15, .int x16, .int x17, .int x18, .ref a19, .ref a20, .int x21, .int x22, .int x23, mJ, mJ, mJ, mJ, mJ, mJ, mJ, mJ] [] w = (if x21 ≤ x23 then mX d 169 431 [.ref a0, .ref a1, mJ, .ref a3, .int x4, .int x5, .int x6, .int x7, mJ, .long l9, mJ, .int x11, .int x12, .int x13, .int x14, .int x15, .int x16, .int x17, .int x18, .ref a19, .ref a20, .int x21, .int x22, .int x23, mJ, mJ, mJ, mJ, mJ, mJ, mJ, mJ] [] w else mX d 169 429 [mJ, mJ, mJ, mJ, mJ, mJ, mJ, mJ, mJ, mJ, mJ, mJ, mJ, mJ, mJ, mJ, mJ, mJ, mJ, mJ, mJ, mJ, mJ, mJ, mJ, mJ, mJ, mJ, mJ, mJ, mJ, mJ] [] w) := by
  refine Eq.trans (X_st f_169_422 rfl rfl) ?_
  refine Eq.trans (X_st f_169_424 rfl rfl) ?_
  refine Eq.trans (X_br f_169_426 rfl rfl) ?_
  exact mIte_eq (mX_maskK lm_169_431 rfl) (mX_maskK lm_169_429 rfl)
theorem b_169_429 {d : Nat} {w : MW} : mX d 169 429 [mJ, mJ, mJ, mJ, mJ, mJ, mJ, mJ, mJ, mJ, mJ, mJ, mJ, mJ, mJ, mJ, mJ, mJ, mJ, mJ, mJ, mJ, mJ, mJ, mJ, mJ, mJ, mJ, mJ, mJ, mJ, mJ] [] w = some (.inl (some (.int (nI 0))), w) := by
  refine Eq.trans (X_iconst f_169_429 kc_i_0) ?_
  exact X_ireturn f_169_430 rfl
theorem b_169_431 {d : Nat} {a0 : Nat} {a1 : Nat} {a3 : Nat} {x4 : Int32} {x5 : Int32} {x6 : Int32} {x7 : Int32} {l9 : Int64} {x11 : Int32} {x12 : Int32} {x13 : Int32} {x14 : Int32} {x15 : Int32} {x16 : Int32} {x17 : Int32} {x18 : Int32} {a19 : Nat} {a20 : Nat} {x21 : Int32} {x22 : Int32} {x23 : Int32} {w : MW} : mX d 169 431 [.ref a0, .ref a1, mJ, .ref a3, .int x4, .int x5, .int x6, .int x7, mJ, .long l9, mJ, .int x11, .int x12, .int x13, .int x14, .int x15, .int x16, .int x17, .int x18, .ref a19, .ref a20, .int x21, .int x22, .int x23, mJ, mJ, mJ, mJ, mJ, mJ, mJ, mJ] [] w = mX d 169 324 [.ref a0, .ref a1, mJ, .ref a3, .int x4, .int x5, .int x6, .int x7, mJ, .long l9, mJ, .int x11, .int x12, .int x13, .int x14, .int x15, .int x16, .int x17, .int x18, .ref a19, .ref a20, .int x21, .int x22, .int (x23 + (nI 1)), mJ, mJ, mJ, mJ, mJ, mJ, mJ, mJ] [] w := by
  refine Eq.trans (X_iinc f_169_431 kc_i_1 rfl rfl) ?_
  refine Eq.trans (X_st f_169_434 rfl rfl) ?_
  exact mX_maskK lm_169_324 rfl
theorem b_169_437 {d : Nat} {a0 : Nat} {a1 : Nat} {a3 : Nat} {x4 : Int32} {x5 : Int32} {x6 : Int32} {x7 : Int32} {l9 : Int64} {x11 : Int32} {x12 : Int32} {x13 : Int32} {x14 : Int32} {x15 : Int32} {x16 : Int32} {x17 : Int32} {x18 : Int32} {a19 : Nat} {a20 : Nat} {x21 : Int32} {w : MW} : mX d 169 437 [.ref a0, .ref a1, mJ, .ref a3, .int x4, .int x5, .int x6, .int x7, mJ, .long l9, mJ, .int x11, .int x12, .int x13, .int x14, .int x15, .int x16, .int x17, .int x18, .ref a19, .ref a20, .int x21, mJ, mJ, mJ, mJ, mJ, mJ, mJ, mJ, mJ, mJ] [] w = mX d 169 440 [.ref a0, .ref a1, mJ, .ref a3, .int x4, .int x5, .int x6, .int x7, mJ, .long l9, mJ, .int x11, .int x12, .int x13, .int x14, .int x15, .int x16, .int x17, .int x18, .ref a19, .ref a20, .int x21, mJ, .int (nI 0), mJ, mJ, mJ, mJ, mJ, mJ, mJ, mJ] [] w := by
  refine Eq.trans (X_iconst f_169_437 kc_i_0) ?_
  refine Eq.trans (X_istore (L' := [.ref a0, .ref a1, mJ, .ref a3, .int x4, .int x5, .int x6, .int x7, mJ, .long l9, mJ, .int x11, .int x12, .int x13, .int x14, .int x15, .int x16, .int x17, .int x18, .ref a19, .ref a20, .int x21, mJ, .int (nI 0), mJ, mJ, mJ, mJ, mJ, mJ, mJ, mJ]) f_169_438 (Nat.le_of_ble_eq_true rfl) rfl) ?_
  exact mX_maskK lm_169_440 rfl
theorem b_169_440 {d : Nat} {a0 : Nat} {a1 : Nat} {a3 : Nat} {x4 : Int32} {x5 : Int32} {x6 : Int32} {x7 : Int32} {l9 : Int64} {x11 : Int32} {x12 : Int32} {x13 : Int32} {x14 : Int32} {x15 : Int32} {x16 : Int32} {x17 : Int32} {x18 : Int32} {a19 : Nat} {a20 : Nat} {x21 : Int32} {x23 : Int32} {w : MW} : mX d 169 440 [.ref a0, .ref a1, mJ, .ref a3, .int x4, .int x5, .int x6, .int x7, mJ, .long l9, mJ, .int x11, .int x12, .int x13, .int x14, .int x15, .int x16, .int x17, .int x18, .ref a19, .ref a20, .int x21, mJ, .int x23, mJ, mJ, mJ, mJ, mJ, mJ, mJ, mJ] [] w = (if x6 ≤ x23 then mX d 169 469 [.ref a0, .ref a1, mJ, .ref a3, .int x4, .int x5, .int x6, .int x7, mJ, .long l9, mJ, .int x11, .int x12, .int x13, .int x14, .int x15, .int x16, .int x17, .int x18, .ref a19, .ref a20, .int x21, mJ, mJ, mJ, mJ, mJ, mJ, mJ, mJ, mJ, mJ] [] w else mX d 169 447 [.ref a0, .ref a1, mJ, .ref a3, .int x4, .int x5, .int x6, .int x7, mJ, .long l9, mJ, .int x11, .int x12, .int x13, .int x14, .int x15, .int x16, .int x17, .int x18, .ref a19, .ref a20, .int x21, mJ, .int x23, mJ, mJ, mJ, mJ, mJ, mJ, mJ, mJ] [] w) := by
  refine Eq.trans (X_st f_169_440 rfl rfl) ?_
  refine Eq.trans (X_st f_169_442 rfl rfl) ?_
  refine Eq.trans (X_br f_169_444 rfl rfl) ?_
  exact mIte_eq (mX_maskK lm_169_469 rfl) (mX_maskK lm_169_447 rfl)
theorem b_169_447 {d : Nat} {a0 : Nat} {a1 : Nat} {a3 : Nat} {x4 : Int32} {x5 : Int32} {x6 : Int32} {x7 : Int32} {l9 : Int64} {x11 : Int32} {x12 : Int32} {x13 : Int32} {x14 : Int32} {x15 : Int32} {x16 : Int32} {x17 : Int32} {x18 : Int32} {a19 : Nat} {a20 : Nat} {x21 : Nat} {x23 : Int32} {w : MW} (h0 : mTg w a19 = 50) (h1 : x21 < 2147483648) (h2 : x21 < mLn w a19) (h3 : mTg w a1 = 9) : mX (d + 1) 169 447 [.ref a0, .ref a1, mJ, .ref a3, .int x4, .int x5, .int x6, .int x7, mJ, .long l9, mJ, .int x11, .int x12, .int x13, .int x14, .int x15, .int x16, .int x17, .int x18, .ref a19, .ref a20, .int (nI x21), mJ, .int x23, mJ, mJ, mJ, mJ, mJ, mJ, mJ, mJ] [] w = mThen (mK d 105 [.ref a1, .int (nI x21), .int x23] w) (fun v w9 => mX (d + 1) 169 461 [.ref a0, .ref a1, mJ, .ref a3, .int x4, .int x5, .int x6, .int x7, mJ, .long l9, mJ, .int x11, .int x12, .int x13, .int x14, .int x15, .int x16, .int x17, .int x18, .ref a19, .ref a20, .int (nI x21), mJ, .int x23, mJ, mJ, mJ, mJ, mJ, mJ, mJ, mJ] (v.toList ++ [.int (mI w a19 x21), .int (nI x21), .ref a19]) w9) := by
  refine Eq.trans (X_st f_169_447 rfl rfl) ?_
  refine Eq.trans (X_st f_169_449 rfl rfl) ?_
  refine Eq.trans (X_dup2 f_169_451 rfl rfl) ?_
  refine Eq.trans (X_iald f_169_452 h0 (jnn h1) (jcl h1) h2) ?_
  refine Eq.trans (X_st f_169_453 rfl rfl) ?_
  refine Eq.trans (X_st f_169_454 rfl rfl) ?_
  refine Eq.trans (X_st f_169_456 rfl rfl) ?_
  refine Eq.trans (X_call f_169_458 (by decide) rfl rfl rfl rfl rfl rfl (Nat.le_of_ble_eq_true rfl) (Nat.le_of_ble_eq_true rfl) (decide_eq_true h3) (Nat.le_of_ble_eq_true rfl)) ?_
  exact mThen_eq fun v w9 => mX_maskK lm_169_461 rfl
theorem b_169_461 {d : Nat} {a0 : Nat} {a1 : Nat} {a3 : Nat} {x4 : Int32} {x5 : Int32} {x6 : Int32} {x7 : Int32} {l9 : Int64} {x11 : Int32} {x12 : Int32} {x13 : Int32} {x14 : Int32} {x15 : Int32} {x16 : Int32} {x17 : Int32} {x18 : Int32} {a19 : Nat} {a20 : Nat} {x21 : Int32} {x23 : Int32} {y0 : Int32} {y1 : Int32} {y2 : Nat} {b3 : Nat} {w : MW} (h0 : mTg w b3 = 50) (h1 : mE ≤ b3) (h2 : y2 < 2147483648) (h3 : y2 < mLn w b3) : mX d 169 461 [.ref a0, .ref a1, mJ, .ref a3, .int x4, .int x5, .int x6, .int x7, mJ, .long l9, mJ, .int x11, .int x12, .int x13, .int x14, .int x15, .int x16, .int x17, .int x18, .ref a19, .ref a20, .int x21, mJ, .int x23, mJ, mJ, mJ, mJ, mJ, mJ, mJ, mJ] [.int y0, .int y1, .int (nI y2), .ref b3] w = mX d 169 463 [.ref a0, .ref a1, mJ, .ref a3, .int x4, .int x5, .int x6, .int x7, mJ, .long l9, mJ, .int x11, .int x12, .int x13, .int x14, .int x15, .int x16, .int x17, .int x18, .ref a19, .ref a20, .int x21, mJ, .int x23, mJ, mJ, mJ, mJ, mJ, mJ, mJ, mJ] [] (wI w b3 y2 (y1 + y0)) := by
  refine Eq.trans (X_st f_169_461 rfl rfl) ?_
  refine Eq.trans (X_iast f_169_462 h0 h1 (jnn h2) (jcl h2) h3) ?_
  exact mX_maskK lm_169_463 rfl
theorem b_169_463 {d : Nat} {a0 : Nat} {a1 : Nat} {a3 : Nat} {x4 : Int32} {x5 : Int32} {x6 : Int32} {x7 : Int32} {l9 : Int64} {x11 : Int32} {x12 : Int32} {x13 : Int32} {x14 : Int32} {x15 : Int32} {x16 : Int32} {x17 : Int32} {x18 : Int32} {a19 : Nat} {a20 : Nat} {x21 : Int32} {x23 : Int32} {w : MW} : mX d 169 463 [.ref a0, .ref a1, mJ, .ref a3, .int x4, .int x5, .int x6, .int x7, mJ, .long l9, mJ, .int x11, .int x12, .int x13, .int x14, .int x15, .int x16, .int x17, .int x18, .ref a19, .ref a20, .int x21, mJ, .int x23, mJ, mJ, mJ, mJ, mJ, mJ, mJ, mJ] [] w = mX d 169 440 [.ref a0, .ref a1, mJ, .ref a3, .int x4, .int x5, .int x6, .int x7, mJ, .long l9, mJ, .int x11, .int x12, .int x13, .int x14, .int x15, .int x16, .int x17, .int x18, .ref a19, .ref a20, .int x21, mJ, .int (x23 + (nI 1)), mJ, mJ, mJ, mJ, mJ, mJ, mJ, mJ] [] w := by
  refine Eq.trans (X_iinc f_169_463 kc_i_1 rfl rfl) ?_
  refine Eq.trans (X_st f_169_466 rfl rfl) ?_
  exact mX_maskK lm_169_440 rfl
theorem b_169_469 {d : Nat} {a0 : Nat} {a1 : Nat} {a3 : Nat} {x4 : Int32} {x5 : Int32} {x6 : Int32} {x7 : Int32} {l9 : Int64} {x11 : Int32} {x12 : Int32} {x13 : Int32} {x14 : Int32} {x15 : Int32} {x16 : Int32} {x17 : Int32} {x18 : Int32} {a19 : Nat} {a20 : Nat} {x21 : Int32} {w : MW} : mX d 169 469 [.ref a0, .ref a1, mJ, .ref a3, .int x4, .int x5, .int x6, .int x7, mJ, .long l9, mJ, .int x11, .int x12, .int x13, .int x14, .int x15, .int x16, .int x17, .int x18, .ref a19, .ref a20, .int x21, mJ, mJ, mJ, mJ, mJ, mJ, mJ, mJ, mJ, mJ] [] w = mX d 169 472 [.ref a0, .ref a1, mJ, .ref a3, .int x4, .int x5, .int x6, .int x7, mJ, .long l9, mJ, .int x11, .int x12, .int x13, .int x14, .int x15, .int x16, .int x17, .int x18, .ref a19, .ref a20, .int x21, mJ, .int (nI 0), mJ, mJ, mJ, mJ, mJ, mJ, mJ, mJ] [] w := by
  refine Eq.trans (X_iconst f_169_469 kc_i_0) ?_
  refine Eq.trans (X_istore (L' := [.ref a0, .ref a1, mJ, .ref a3, .int x4, .int x5, .int x6, .int x7, mJ, .long l9, mJ, .int x11, .int x12, .int x13, .int x14, .int x15, .int x16, .int x17, .int x18, .ref a19, .ref a20, .int x21, mJ, .int (nI 0), mJ, mJ, mJ, mJ, mJ, mJ, mJ, mJ]) f_169_470 (Nat.le_of_ble_eq_true rfl) rfl) ?_
  exact mX_maskK lm_169_472 rfl
theorem b_169_472 {d : Nat} {a0 : Nat} {a1 : Nat} {a3 : Nat} {x4 : Int32} {x5 : Int32} {x6 : Int32} {x7 : Int32} {l9 : Int64} {x11 : Int32} {x12 : Int32} {x13 : Int32} {x14 : Int32} {x15 : Int32} {x16 : Int32} {x17 : Int32} {x18 : Int32} {a19 : Nat} {a20 : Nat} {x21 : Int32} {x23 : Int32} {w : MW} : mX d 169 472 [.ref a0, .ref a1, mJ, .ref a3, .int x4, .int x5, .int x6, .int x7, mJ, .long l9, mJ, .int x11, .int x12, .int x13, .int x14, .int x15, .int x16, .int x17, .int x18, .ref a19, .ref a20, .int x21, mJ, .int x23, mJ, mJ, mJ, mJ, mJ, mJ, mJ, mJ] [] w = (if x5 ≤ x23 then mX d 169 501 [.ref a0, .ref a1, mJ, .ref a3, .int x4, .int x5, .int x6, .int x7, mJ, .long l9, mJ, .int x11, .int x12, .int x13, .int x14, .int x15, .int x16, .int x17, .int x18, .ref a19, .ref a20, .int x21, mJ, mJ, mJ, mJ, mJ, mJ, mJ, mJ, mJ, mJ] [] w else mX d 169 479 [.ref a0, .ref a1, mJ, .ref a3, .int x4, .int x5, .int x6, .int x7, mJ, .long l9, mJ, .int x11, .int x12, .int x13, .int x14, .int x15, .int x16, .int x17, .int x18, .ref a19, .ref a20, .int x21, mJ, .int x23, mJ, mJ, mJ, mJ, mJ, mJ, mJ, mJ] [] w) := by
  refine Eq.trans (X_st f_169_472 rfl rfl) ?_
  refine Eq.trans (X_st f_169_474 rfl rfl) ?_
  refine Eq.trans (X_br f_169_476 rfl rfl) ?_
  exact mIte_eq (mX_maskK lm_169_501 rfl) (mX_maskK lm_169_479 rfl)
theorem b_169_479 {d : Nat} {a0 : Nat} {a1 : Nat} {a3 : Nat} {x4 : Int32} {x5 : Int32} {x6 : Int32} {x7 : Int32} {l9 : Int64} {x11 : Int32} {x12 : Int32} {x13 : Int32} {x14 : Int32} {x15 : Int32} {x16 : Int32} {x17 : Int32} {x18 : Int32} {a19 : Nat} {a20 : Nat} {x21 : Nat} {x23 : Int32} {w : MW} (h0 : 52 ≤ mTg w a20 ∧ mTg w a20 < 55) (h1 : x21 < 2147483648) (h2 : x21 < mLn w a20) (h3 : mR w a20 x21 = some (gR w a20 x21)) (h4 : mTg w a1 = 9) : mX (d + 1) 169 479 [.ref a0, .ref a1, mJ, .ref a3, .int x4, .int x5, .int x6, .int x7, mJ, .long l9, mJ, .int x11, .int x12, .int x13, .int x14, .int x15, .int x16, .int x17, .int x18, .ref a19, .ref a20, .int (nI x21), mJ, .int x23, mJ, mJ, mJ, mJ, mJ, mJ, mJ, mJ] [] w = mThen (mK d 106 [.ref a1, .int (nI x21), .int x23] w) (fun v w9 => mX (d + 1) 169 494 [.ref a0, .ref a1, mJ, .ref a3, .int x4, .int x5, .int x6, .int x7, mJ, .long l9, mJ, .int x11, .int x12, .int x13, .int x14, .int x15, .int x16, .int x17, .int x18, .ref a19, .ref a20, .int (nI x21), mJ, .int x23, mJ, mJ, mJ, mJ, mJ, mJ, mJ, mJ] (v.toList ++ [.int x23, .ref (gR w a20 x21)]) w9) := by
  refine Eq.trans (X_st f_169_479 rfl rfl) ?_
  refine Eq.trans (X_st f_169_481 rfl rfl) ?_
  refine Eq.trans (X_aald f_169_483 h0 (jnn h1) (jcl h1) h2 h3) ?_
  refine Eq.trans (X_st f_169_484 rfl rfl) ?_
  refine Eq.trans (X_st f_169_486 rfl rfl) ?_
  refine Eq.trans (X_st f_169_487 rfl rfl) ?_
  refine Eq.trans (X_st f_169_489 rfl rfl) ?_
  refine Eq.trans (X_call f_169_491 (by decide) rfl rfl rfl rfl rfl rfl (Nat.le_of_ble_eq_true rfl) (Nat.le_of_ble_eq_true rfl) (decide_eq_true h4) (Nat.le_of_ble_eq_true rfl)) ?_
  exact mThen_eq fun v w9 => mX_maskK lm_169_494 rfl
theorem b_169_494 {d : Nat} {a0 : Nat} {a1 : Nat} {a3 : Nat} {x4 : Int32} {x5 : Int32} {x6 : Int32} {x7 : Int32} {l9 : Int64} {x11 : Int32} {x12 : Int32} {x13 : Int32} {x14 : Int32} {x15 : Int32} {x16 : Int32} {x17 : Int32} {x18 : Int32} {a19 : Nat} {a20 : Nat} {x21 : Int32} {x23 : Int32} {y0 : Int32} {y1 : Nat} {b2 : Nat} {w : MW} (h0 : mTg w b2 = 50) (h1 : mE ≤ b2) (h2 : y1 < 2147483648) (h3 : y1 < mLn w b2) : mX d 169 494 [.ref a0, .ref a1, mJ, .ref a3, .int x4, .int x5, .int x6, .int x7, mJ, .long l9, mJ, .int x11, .int x12, .int x13, .int x14, .int x15, .int x16, .int x17, .int x18, .ref a19, .ref a20, .int x21, mJ, .int x23, mJ, mJ, mJ, mJ, mJ, mJ, mJ, mJ] [.int y0, .int (nI y1), .ref b2] w = mX d 169 495 [.ref a0, .ref a1, mJ, .ref a3, .int x4, .int x5, .int x6, .int x7, mJ, .long l9, mJ, .int x11, .int x12, .int x13, .int x14, .int x15, .int x16, .int x17, .int x18, .ref a19, .ref a20, .int x21, mJ, .int x23, mJ, mJ, mJ, mJ, mJ, mJ, mJ, mJ] [] (wI w b2 y1 y0) := by
  refine Eq.trans (X_iast f_169_494 h0 h1 (jnn h2) (jcl h2) h3) ?_
  exact mX_maskK lm_169_495 rfl
theorem b_169_495 {d : Nat} {a0 : Nat} {a1 : Nat} {a3 : Nat} {x4 : Int32} {x5 : Int32} {x6 : Int32} {x7 : Int32} {l9 : Int64} {x11 : Int32} {x12 : Int32} {x13 : Int32} {x14 : Int32} {x15 : Int32} {x16 : Int32} {x17 : Int32} {x18 : Int32} {a19 : Nat} {a20 : Nat} {x21 : Int32} {x23 : Int32} {w : MW} : mX d 169 495 [.ref a0, .ref a1, mJ, .ref a3, .int x4, .int x5, .int x6, .int x7, mJ, .long l9, mJ, .int x11, .int x12, .int x13, .int x14, .int x15, .int x16, .int x17, .int x18, .ref a19, .ref a20, .int x21, mJ, .int x23, mJ, mJ, mJ, mJ, mJ, mJ, mJ, mJ] [] w = mX d 169 472 [.ref a0, .ref a1, mJ, .ref a3, .int x4, .int x5, .int x6, .int x7, mJ, .long l9, mJ, .int x11, .int x12, .int x13, .int x14, .int x15, .int x16, .int x17, .int x18, .ref a19, .ref a20, .int x21, mJ, .int (x23 + (nI 1)), mJ, mJ, mJ, mJ, mJ, mJ, mJ, mJ] [] w := by
  refine Eq.trans (X_iinc f_169_495 kc_i_1 rfl rfl) ?_
  refine Eq.trans (X_st f_169_498 rfl rfl) ?_
  exact mX_maskK lm_169_472 rfl
theorem b_169_501 {d : Nat} {a0 : Nat} {a1 : Nat} {a3 : Nat} {x4 : Int32} {x5 : Int32} {x6 : Int32} {x7 : Int32} {l9 : Int64} {x11 : Int32} {x12 : Int32} {x13 : Int32} {x14 : Int32} {x15 : Int32} {x16 : Int32} {x17 : Int32} {x18 : Int32} {a19 : Nat} {a20 : Nat} {x21 : Int32} {w : MW} : mX d 169 501 [.ref a0, .ref a1, mJ, .ref a3, .int x4, .int x5, .int x6, .int x7, mJ, .long l9, mJ, .int x11, .int x12, .int x13, .int x14, .int x15, .int x16, .int x17, .int x18, .ref a19, .ref a20, .int x21, mJ, mJ, mJ, mJ, mJ, mJ, mJ, mJ, mJ, mJ] [] w = mX d 169 158 [.ref a0, .ref a1, mJ, .ref a3, .int x4, .int x5, .int x6, .int x7, mJ, .long l9, mJ, .int x11, .int x12, .int x13, .int x14, .int x15, .int x16, .int x17, .int x18, .ref a19, .ref a20, .int (x21 + (nI 1)), mJ, mJ, mJ, mJ, mJ, mJ, mJ, mJ, mJ, mJ] [] w := by
  refine Eq.trans (X_iinc f_169_501 kc_i_1 rfl rfl) ?_
  refine Eq.trans (X_st f_169_504 rfl rfl) ?_
  exact mX_maskK lm_169_158 rfl
theorem b_169_507 {d : Nat} {a0 : Nat} {a1 : Nat} {a3 : Nat} {x4 : Int32} {x5 : Int32} {x6 : Int32} {x7 : Int32} {l9 : Int64} {x11 : Int32} {x12 : Int32} {x13 : Int32} {x14 : Int32} {x15 : Int32} {x16 : Int32} {x17 : Int32} {x18 : Int32} {a19 : Nat} {a20 : Nat} {w : MW} : mX d 169 507 [.ref a0, .ref a1, mJ, .ref a3, .int x4, .int x5, .int x6, .int x7, mJ, .long l9, mJ, .int x11, .int x12, .int x13, .int x14, .int x15, .int x16, .int x17, .int x18, .ref a19, .ref a20, mJ, mJ, mJ, mJ, mJ, mJ, mJ, mJ, mJ, mJ, mJ] [] w = mX d 169 516 [.ref a0, .ref a1, mJ, .ref a3, .int x4, .int x5, .int x6, .int x7, mJ, .long l9, mJ, .int x11, .int x12, .int x13, .int x14, .int x15, .int x16, .int x17, .int x18, .ref a19, .ref a20, .int (nI 0), .int (nI 0), .int (nI 0), mJ, mJ, mJ, mJ, mJ, mJ, mJ, mJ] [] w := by
  refine Eq.trans (X_iconst f_169_507 kc_i_0) ?_
  refine Eq.trans (X_istore (L' := [.ref a0, .ref a1, mJ, .ref a3, .int x4, .int x5, .int x6, .int x7, mJ, .long l9, mJ, .int x11, .int x12, .int x13, .int x14, .int x15, .int x16, .int x17, .int x18, .ref a19, .ref a20, .int (nI 0), mJ, mJ, mJ, mJ, mJ, mJ, mJ, mJ, mJ, mJ]) f_169_508 (Nat.le_of_ble_eq_true rfl) rfl) ?_
  refine Eq.trans (X_iconst f_169_510 kc_i_0) ?_
  refine Eq.trans (X_istore (L' := [.ref a0, .ref a1, mJ, .ref a3, .int x4, .int x5, .int x6, .int x7, mJ, .long l9, mJ, .int x11, .int x12, .int x13, .int x14, .int x15, .int x16, .int x17, .int x18, .ref a19, .ref a20, .int (nI 0), .int (nI 0), mJ, mJ, mJ, mJ, mJ, mJ, mJ, mJ, mJ]) f_169_511 (Nat.le_of_ble_eq_true rfl) rfl) ?_
  refine Eq.trans (X_iconst f_169_513 kc_i_0) ?_
  refine Eq.trans (X_istore (L' := [.ref a0, .ref a1, mJ, .ref a3, .int x4, .int x5, .int x6, .int x7, mJ, .long l9, mJ, .int x11, .int x12, .int x13, .int x14, .int x15, .int x16, .int x17, .int x18, .ref a19, .ref a20, .int (nI 0), .int (nI 0), .int (nI 0), mJ, mJ, mJ, mJ, mJ, mJ, mJ, mJ]) f_169_514 (Nat.le_of_ble_eq_true rfl) rfl) ?_
  exact mX_maskK lm_169_516 rfl
theorem b_169_516 {d : Nat} {a0 : Nat} {a1 : Nat} {a3 : Nat} {x4 : Int32} {x5 : Int32} {x6 : Int32} {x7 : Int32} {l9 : Int64} {x11 : Int32} {x12 : Int32} {x13 : Int32} {x14 : Int32} {x15 : Int32} {x16 : Int32} {x17 : Int32} {x18 : Int32} {a19 : Nat} {a20 : Nat} {x21 : Int32} {x22 : Int32} {x23 : Int32} {w : MW} : mX d 169 516 [.ref a0, .ref a1, mJ, .ref a3, .int x4, .int x5, .int x6, .int x7, mJ, .long l9, mJ, .int x11, .int x12, .int x13, .int x14, .int x15, .int x16, .int x17, .int x18, .ref a19, .ref a20, .int x21, .int x22, .int x23, mJ, mJ, mJ, mJ, mJ, mJ, mJ, mJ] [] w = (if x5 ≤ x23 then mX d 169 572 [.ref a0, .ref a1, mJ, .ref a3, .int x4, .int x5, .int x6, .int x7, mJ, .long l9, mJ, .int x11, .int x12, .int x13, .int x14, .int x15, .int x16, .int x17, .int x18, .ref a19, .ref a20, .int x21, .int x22, mJ, mJ, mJ, mJ, mJ, mJ, mJ, mJ, mJ] [] w else mX d 169 523 [.ref a0, .ref a1, mJ, .ref a3, .int x4, .int x5, .int x6, .int x7, mJ, .long l9, mJ, .int x11, .int x12, .int x13, .int x14, .int x15, .int x16, .int x17, .int x18, .ref a19, .ref a20, .int x21, .int x22, .int x23, mJ, mJ, mJ, mJ, mJ, mJ, mJ, mJ] [] w) := by
  refine Eq.trans (X_st f_169_516 rfl rfl) ?_
  refine Eq.trans (X_st f_169_518 rfl rfl) ?_
  refine Eq.trans (X_br f_169_520 rfl rfl) ?_
  exact mIte_eq (mX_maskK lm_169_572 rfl) (mX_maskK lm_169_523 rfl)
theorem b_169_523 {d : Nat} {a0 : Nat} {a1 : Nat} {a3 : Nat} {x4 : Int32} {x5 : Int32} {x6 : Int32} {x7 : Int32} {l9 : Int64} {x11 : Int32} {x12 : Int32} {x13 : Int32} {x14 : Int32} {x15 : Int32} {x16 : Int32} {x17 : Int32} {x18 : Int32} {a19 : Nat} {a20 : Nat} {x21 : Int32} {x22 : Int32} {x23 : Int32} {w : MW} (h0 : mTg w a1 = 9) : mX (d + 1) 169 523 [.ref a0, .ref a1, mJ, .ref a3, .int x4, .int x5, .int x6, .int x7, mJ, .long l9, mJ, .int x11, .int x12, .int x13, .int x14, .int x15, .int x16, .int x17, .int x18, .ref a19, .ref a20, .int x21, .int x22, .int x23, mJ, mJ, mJ, mJ, mJ, mJ, mJ, mJ] [] w = mThen (mK d 101 [.ref a1, .int x23, .int (nI 3)] w) (fun v w9 => mX (d + 1) 169 532 [.ref a0, .ref a1, mJ, .ref a3, .int x4, .int x5, .int x6, .int x7, mJ, .long l9, mJ, .int x11, .int x12, .int x13, .int x14, .int x15, .int x16, .int x17, .int x18, .ref a19, .ref a20, mJ, .int x22, .int x23, mJ, mJ, mJ, mJ, mJ, mJ, mJ, mJ] (v.toList ++ [.int x21]) w9) := by
  refine Eq.trans (X_st f_169_523 rfl rfl) ?_
  refine Eq.trans (X_st f_169_525 rfl rfl) ?_
  refine Eq.trans (X_st f_169_526 rfl rfl) ?_
  refine Eq.trans (X_iconst f_169_528 kc_i_3) ?_
  refine Eq.trans (X_call f_169_529 (by decide) rfl rfl rfl rfl rfl rfl (Nat.le_of_ble_eq_true rfl) (Nat.le_of_ble_eq_true rfl) (decide_eq_true h0) (Nat.le_of_ble_eq_true rfl)) ?_
  exact mThen_eq fun v w9 => mX_maskK lm_169_532 rfl
theorem b_169_532 {d : Nat} {a0 : Nat} {a1 : Nat} {a3 : Nat} {x4 : Int32} {x5 : Int32} {x6 : Int32} {x7 : Int32} {l9 : Int64} {x11 : Int32} {x12 : Int32} {x13 : Int32} {x14 : Int32} {x15 : Int32} {x16 : Int32} {x17 : Int32} {x18 : Int32} {a19 : Nat} {a20 : Nat} {x22 : Int32} {x23 : Int32} {y0 : Int32} {y1 : Int32} {w : MW} (h0 : mTg w a1 = 9) : mX (d + 1) 169 532 [.ref a0, .ref a1, mJ, .ref a3, .int x4, .int x5, .int x6, .int x7, mJ, .long l9, mJ, .int x11, .int x12, .int x13, .int x14, .int x15, .int x16, .int x17, .int x18, .ref a19, .ref a20, mJ, .int x22, .int x23, mJ, mJ, mJ, mJ, mJ, mJ, mJ, mJ] [.int y0, .int y1] w = mThen (mK d 101 [.ref a1, .int x23, .int (nI 4)] w) (fun v w9 => mX (d + 1) 169 544 [.ref a0, .ref a1, mJ, .ref a3, .int x4, .int x5, .int x6, .int x7, mJ, .long l9, mJ, .int x11, .int x12, .int x13, .int x14, .int x15, .int x16, .int x17, .int x18, .ref a19, .ref a20, .int (y1 + y0), mJ, .int x23, mJ, mJ, mJ, mJ, mJ, mJ, mJ, mJ] (v.toList ++ [.int x22]) w9) := by
  refine Eq.trans (X_st f_169_532 rfl rfl) ?_
  refine Eq.trans (X_istore (L' := [.ref a0, .ref a1, mJ, .ref a3, .int x4, .int x5, .int x6, .int x7, mJ, .long l9, mJ, .int x11, .int x12, .int x13, .int x14, .int x15, .int x16, .int x17, .int x18, .ref a19, .ref a20, .int (y1 + y0), .int x22, .int x23, mJ, mJ, mJ, mJ, mJ, mJ, mJ, mJ]) f_169_533 (Nat.le_of_ble_eq_true rfl) rfl) ?_
  refine Eq.trans (X_st f_169_535 rfl rfl) ?_
  refine Eq.trans (X_st f_169_537 rfl rfl) ?_
  refine Eq.trans (X_st f_169_538 rfl rfl) ?_
  refine Eq.trans (X_iconst f_169_540 kc_i_4) ?_
  refine Eq.trans (X_call f_169_541 (by decide) rfl rfl rfl rfl rfl rfl (Nat.le_of_ble_eq_true rfl) (Nat.le_of_ble_eq_true rfl) (decide_eq_true h0) (Nat.le_of_ble_eq_true rfl)) ?_
  exact mThen_eq fun v w9 => mX_maskK lm_169_544 rfl
theorem b_169_544 {d : Nat} {a0 : Nat} {a1 : Nat} {a3 : Nat} {x4 : Int32} {x5 : Int32} {x6 : Int32} {x7 : Int32} {l9 : Int64} {x11 : Int32} {x12 : Int32} {x13 : Int32} {x14 : Int32} {x15 : Int32} {x16 : Int32} {x17 : Int32} {x18 : Int32} {a19 : Nat} {a20 : Nat} {x21 : Int32} {x23 : Int32} {y0 : Int32} {y1 : Int32} {w : MW} (h0 : mTg w a1 = 9) : mX (d + 1) 169 544 [.ref a0, .ref a1, mJ, .ref a3, .int x4, .int x5, .int x6, .int x7, mJ, .long l9, mJ, .int x11, .int x12, .int x13, .int x14, .int x15, .int x16, .int x17, .int x18, .ref a19, .ref a20, .int x21, mJ, .int x23, mJ, mJ, mJ, mJ, mJ, mJ, mJ, mJ] [.int y0, .int y1] w = mThen (mK d 101 [.ref a1, .int x23, .int (nI 4)] w) (fun v w9 => mX (d + 1) 169 554 [.ref a0, .ref a1, mJ, .ref a3, .int x4, .int x5, .int x6, .int x7, mJ, .long l9, mJ, .int x11, .int x12, .int x13, .int x14, .int x15, .int x16, .int x17, .int x18, .ref a19, .ref a20, .int x21, .int (y1 + y0), .int x23, mJ, mJ, mJ, mJ, mJ, mJ, mJ, mJ] (v.toList ++ []) w9) := by
  refine Eq.trans (X_st f_169_544 rfl rfl) ?_
  refine Eq.trans (X_istore (L' := [.ref a0, .ref a1, mJ, .ref a3, .int x4, .int x5, .int x6, .int x7, mJ, .long l9, mJ, .int x11, .int x12, .int x13, .int x14, .int x15, .int x16, .int x17, .int x18, .ref a19, .ref a20, .int x21, .int (y1 + y0), .int x23, mJ, mJ, mJ, mJ, mJ, mJ, mJ, mJ]) f_169_545 (Nat.le_of_ble_eq_true rfl) rfl) ?_
  refine Eq.trans (X_st f_169_547 rfl rfl) ?_
  refine Eq.trans (X_st f_169_548 rfl rfl) ?_
  refine Eq.trans (X_iconst f_169_550 kc_i_4) ?_
  refine Eq.trans (X_call f_169_551 (by decide) rfl rfl rfl rfl rfl rfl (Nat.le_of_ble_eq_true rfl) (Nat.le_of_ble_eq_true rfl) (decide_eq_true h0) (Nat.le_of_ble_eq_true rfl)) ?_
  exact mThen_eq fun v w9 => mX_maskK lm_169_554 rfl
theorem b_169_554 {d : Nat} {a0 : Nat} {a1 : Nat} {a3 : Nat} {x4 : Int32} {x5 : Int32} {x6 : Int32} {x7 : Int32} {l9 : Int64} {x11 : Int32} {x12 : Int32} {x13 : Int32} {x14 : Int32} {x15 : Int32} {x16 : Int32} {x17 : Int32} {x18 : Int32} {a19 : Nat} {a20 : Nat} {x21 : Int32} {x22 : Int32} {x23 : Int32} {y0 : Int32} {w : MW} (h0 : mTg w a1 = 9) : mX (d + 1) 169 554 [.ref a0, .ref a1, mJ, .ref a3, .int x4, .int x5, .int x6, .int x7, mJ, .long l9, mJ, .int x11, .int x12, .int x13, .int x14, .int x15, .int x16, .int x17, .int x18, .ref a19, .ref a20, .int x21, .int x22, .int x23, mJ, mJ, mJ, mJ, mJ, mJ, mJ, mJ] [.int y0] w = mThen (mK d 101 [.ref a1, .int x23, .int (nI 3)] w) (fun v w9 => mX (d + 1) 169 561 [.ref a0, .ref a1, mJ, .ref a3, .int x4, .int x5, .int x6, .int x7, mJ, .long l9, mJ, .int x11, .int x12, .int x13, .int x14, .int x15, .int x16, .int x17, .int x18, .ref a19, .ref a20, .int x21, .int x22, .int x23, mJ, mJ, mJ, mJ, mJ, mJ, mJ, mJ] (v.toList ++ [.int y0]) w9) := by
  refine Eq.trans (X_st f_169_554 rfl rfl) ?_
  refine Eq.trans (X_st f_169_555 rfl rfl) ?_
  refine Eq.trans (X_iconst f_169_557 kc_i_3) ?_
  refine Eq.trans (X_call f_169_558 (by decide) rfl rfl rfl rfl rfl rfl (Nat.le_of_ble_eq_true rfl) (Nat.le_of_ble_eq_true rfl) (decide_eq_true h0) (Nat.le_of_ble_eq_true rfl)) ?_
  exact mThen_eq fun v w9 => mX_maskK lm_169_561 rfl
theorem b_169_561 {d : Nat} {a0 : Nat} {a1 : Nat} {a3 : Nat} {x4 : Int32} {x5 : Int32} {x6 : Int32} {x7 : Int32} {l9 : Int64} {x11 : Int32} {x12 : Int32} {x13 : Int32} {x14 : Int32} {x15 : Int32} {x16 : Int32} {x17 : Int32} {x18 : Int32} {a19 : Nat} {a20 : Nat} {x21 : Int32} {x22 : Int32} {x23 : Int32} {y0 : Int32} {y1 : Int32} {w : MW} : mX d 169 561 [.ref a0, .ref a1, mJ, .ref a3, .int x4, .int x5, .int x6, .int x7, mJ, .long l9, mJ, .int x11, .int x12, .int x13, .int x14, .int x15, .int x16, .int x17, .int x18, .ref a19, .ref a20, .int x21, .int x22, .int x23, mJ, mJ, mJ, mJ, mJ, mJ, mJ, mJ] [.int y0, .int y1] w = (if y1 ≤ y0 then mX d 169 566 [.ref a0, .ref a1, mJ, .ref a3, .int x4, .int x5, .int x6, .int x7, mJ, .long l9, mJ, .int x11, .int x12, .int x13, .int x14, .int x15, .int x16, .int x17, .int x18, .ref a19, .ref a20, .int x21, .int x22, .int x23, mJ, mJ, mJ, mJ, mJ, mJ, mJ, mJ] [] w else mX d 169 564 [mJ, mJ, mJ, mJ, mJ, mJ, mJ, mJ, mJ, mJ, mJ, mJ, mJ, mJ, mJ, mJ, mJ, mJ, mJ, mJ, mJ, mJ, mJ, mJ, mJ, mJ, mJ, mJ, mJ, mJ, mJ, mJ] [] w) := by
  refine Eq.trans (X_br f_169_561 rfl rfl) ?_
  exact mIte_eq (mX_maskK lm_169_566 rfl) (mX_maskK lm_169_564 rfl)
theorem b_169_564 {d : Nat} {w : MW} : mX d 169 564 [mJ, mJ, mJ, mJ, mJ, mJ, mJ, mJ, mJ, mJ, mJ, mJ, mJ, mJ, mJ, mJ, mJ, mJ, mJ, mJ, mJ, mJ, mJ, mJ, mJ, mJ, mJ, mJ, mJ, mJ, mJ, mJ] [] w = some (.inl (some (.int (nI 0))), w) := by
  refine Eq.trans (X_iconst f_169_564 kc_i_0) ?_
  exact X_ireturn f_169_565 rfl
theorem b_169_566 {d : Nat} {a0 : Nat} {a1 : Nat} {a3 : Nat} {x4 : Int32} {x5 : Int32} {x6 : Int32} {x7 : Int32} {l9 : Int64} {x11 : Int32} {x12 : Int32} {x13 : Int32} {x14 : Int32} {x15 : Int32} {x16 : Int32} {x17 : Int32} {x18 : Int32} {a19 : Nat} {a20 : Nat} {x21 : Int32} {x22 : Int32} {x23 : Int32} {w : MW} : mX d 169 566 [.ref a0, .ref a1, mJ, .ref a3, .int x4, .int x5, .int x6, .int x7, mJ, .long l9, mJ, .int x11, .int x12, .int x13, .int x14, .int x15, .int x16, .int x17, .int x18, .ref a19, .ref a20, .int x21, .int x22, .int x23, mJ, mJ, mJ, mJ, mJ, mJ, mJ, mJ] [] w = mX d 169 516 [.ref a0, .ref a1, mJ, .ref a3, .int x4, .int x5, .int x6, .int x7, mJ, .long l9, mJ, .int x11, .int x12, .int x13, .int x14, .int x15, .int x16, .int x17, .int x18, .ref a19, .ref a20, .int x21, .int x22, .int (x23 + (nI 1)), mJ, mJ, mJ, mJ, mJ, mJ, mJ, mJ] [] w := by
  refine Eq.trans (X_iinc f_169_566 kc_i_1 rfl rfl) ?_
  refine Eq.trans (X_st f_169_569 rfl rfl) ?_
  exact mX_maskK lm_169_516 rfl
theorem b_169_572 {d : Nat} {a0 : Nat} {a1 : Nat} {a3 : Nat} {x4 : Int32} {x5 : Int32} {x6 : Int32} {x7 : Int32} {l9 : Int64} {x11 : Int32} {x12 : Int32} {x13 : Int32} {x14 : Int32} {x15 : Int32} {x16 : Int32} {x17 : Int32} {x18 : Int32} {a19 : Nat} {a20 : Nat} {x21 : Int32} {x22 : Int32} {w : MW} (h0 : mTg w a1 = 9) : mX (d + 1) 169 572 [.ref a0, .ref a1, mJ, .ref a3, .int x4, .int x5, .int x6, .int x7, mJ, .long l9, mJ, .int x11, .int x12, .int x13, .int x14, .int x15, .int x16, .int x17, .int x18, .ref a19, .ref a20, .int x21, .int x22, mJ, mJ, mJ, mJ, mJ, mJ, mJ, mJ, mJ] [] w = mThen (mK d 99 [.ref a1, .int (nI 10)] w) (fun v w9 => mX (d + 1) 169 580 [.ref a0, .ref a1, mJ, .ref a3, .int x4, .int x5, .int x6, .int x7, mJ, .long l9, mJ, .int x11, .int x12, .int x13, mJ, .int x15, .int x16, .int x17, .int x18, .ref a19, .ref a20, .int x21, .int x22, mJ, mJ, mJ, mJ, mJ, mJ, mJ, mJ, mJ] (v.toList ++ [.int x14]) w9) := by
  refine Eq.trans (X_st f_169_572 rfl rfl) ?_
  refine Eq.trans (X_st f_169_574 rfl rfl) ?_
  refine Eq.trans (X_bipush f_169_575 kc_b_10) ?_
  refine Eq.trans (X_call f_169_577 (by decide) rfl rfl rfl rfl rfl rfl (Nat.le_of_ble_eq_true rfl) (Nat.le_of_ble_eq_true rfl) (decide_eq_true h0) (Nat.le_of_ble_eq_true rfl)) ?_
  exact mThen_eq fun v w9 => mX_maskK lm_169_580 rfl
theorem b_169_580 {d : Nat} {a0 : Nat} {a1 : Nat} {a3 : Nat} {x4 : Int32} {x5 : Int32} {x6 : Int32} {x7 : Int32} {l9 : Int64} {x11 : Int32} {x12 : Int32} {x13 : Int32} {x15 : Int32} {x16 : Int32} {x17 : Int32} {x18 : Int32} {a19 : Nat} {a20 : Nat} {x21 : Int32} {x22 : Int32} {y0 : Int32} {y1 : Int32} {w : MW} : mX d 169 580 [.ref a0, .ref a1, mJ, .ref a3, .int x4, .int x5, .int x6, .int x7, mJ, .long l9, mJ, .int x11, .int x12, .int x13, mJ, .int x15, .int x16, .int x17, .int x18, .ref a19, .ref a20, .int x21, .int x22, mJ, mJ, mJ, mJ, mJ, mJ, mJ, mJ, mJ] [.int y0, .int y1] w = (if ¬ y1 = y0 then mX d 169 683 [mJ, mJ, mJ, mJ, mJ, mJ, mJ, mJ, mJ, mJ, mJ, mJ, mJ, mJ, mJ, mJ, mJ, mJ, mJ, mJ, mJ, mJ, mJ, mJ, mJ, mJ, mJ, mJ, mJ, mJ, mJ, mJ] [] w else mX d 169 583 [.ref a0, .ref a1, mJ, .ref a3, .int x4, .int x5, .int x6, .int x7, mJ, .long l9, mJ, .int x11, .int x12, .int x13, mJ, .int x15, .int x16, .int x17, .int x18, .ref a19, .ref a20, .int x21, .int x22, mJ, mJ, mJ, mJ, mJ, mJ, mJ, mJ, mJ] [] w) := by
  refine Eq.trans (X_br f_169_580 rfl rfl) ?_
  exact mIte_eq (mX_maskK lm_169_683 rfl) (mX_maskK lm_169_583 rfl)
theorem b_169_583 {d : Nat} {a0 : Nat} {a1 : Nat} {a3 : Nat} {x4 : Int32} {x5 : Int32} {x6 : Int32} {x7 : Int32} {l9 : Int64} {x11 : Int32} {x12 : Int32} {x13 : Int32} {x15 : Int32} {x16 : Int32} {x17 : Int32} {x18 : Int32} {a19 : Nat} {a20 : Nat} {x21 : Int32} {x22 : Int32} {w : MW} (h0 : mTg w a1 = 9) : mX (d + 1) 169 583 [.ref a0, .ref a1, mJ, .ref a3, .int x4, .int x5, .int x6, .int x7, mJ, .long l9, mJ, .int x11, .int x12, .int x13, mJ, .int x15, .int x16, .int x17, .int x18, .ref a19, .ref a20, .int x21, .int x22, mJ, mJ, mJ, mJ, mJ, mJ, mJ, mJ, mJ] [] w = mThen (mK d 99 [.ref a1, .int (nI 11)] w) (fun v w9 => mX (d + 1) 169 591 [.ref a0, .ref a1, mJ, .ref a3, .int x4, .int x5, .int x6, .int x7, mJ, .long l9, mJ, .int x11, .int x12, .int x13, mJ, .int x15, .int x16, .int x17, .int x18, .ref a19, .ref a20, .int x21, .int x22, mJ, mJ, mJ, mJ, mJ, mJ, mJ, mJ, mJ] (v.toList ++ [.int x15]) w9) := by
  refine Eq.trans (X_st f_169_583 rfl rfl) ?_
  refine Eq.trans (X_st f_169_585 rfl rfl) ?_
  refine Eq.trans (X_bipush f_169_586 kc_b_11) ?_
  refine Eq.trans (X_call f_169_588 (by decide) rfl rfl rfl rfl rfl rfl (Nat.le_of_ble_eq_true rfl) (Nat.le_of_ble_eq_true rfl) (decide_eq_true h0) (Nat.le_of_ble_eq_true rfl)) ?_
  exact mThen_eq fun v w9 => mX_maskK lm_169_591 rfl
theorem b_169_591 {d : Nat} {a0 : Nat} {a1 : Nat} {a3 : Nat} {x4 : Int32} {x5 : Int32} {x6 : Int32} {x7 : Int32} {l9 : Int64} {x11 : Int32} {x12 : Int32} {x13 : Int32} {x15 : Int32} {x16 : Int32} {x17 : Int32} {x18 : Int32} {a19 : Nat} {a20 : Nat} {x21 : Int32} {x22 : Int32} {y0 : Int32} {y1 : Int32} {w : MW} : mX d 169 591 [.ref a0, .ref a1, mJ, .ref a3, .int x4, .int x5, .int x6, .int x7, mJ, .long l9, mJ, .int x11, .int x12, .int x13, mJ, .int x15, .int x16, .int x17, .int x18, .ref a19, .ref a20, .int x21, .int x22, mJ, mJ, mJ, mJ, mJ, mJ, mJ, mJ, mJ] [.int y0, .int y1] w = (if ¬ y1 = y0 then mX d 169 683 [mJ, mJ, mJ, mJ, mJ, mJ, mJ, mJ, mJ, mJ, mJ, mJ, mJ, mJ, mJ, mJ, mJ, mJ, mJ, mJ, mJ, mJ, mJ, mJ, mJ, mJ, mJ, mJ, mJ, mJ, mJ, mJ] [] w else mX d 169 594 [.ref a0, .ref a1, mJ, .ref a3, .int x4, .int x5, .int x6, .int x7, mJ, .long l9, mJ, .int x11, .int x12, .int x13, mJ, .int x15, .int x16, .int x17, .int x18, .ref a19, .ref a20, .int x21, .int x22, mJ, mJ, mJ, mJ, mJ, mJ, mJ, mJ, mJ] [] w) := by
  refine Eq.trans (X_br f_169_591 rfl rfl) ?_
  exact mIte_eq (mX_maskK lm_169_683 rfl) (mX_maskK lm_169_594 rfl)
theorem b_169_594 {d : Nat} {a0 : Nat} {a1 : Nat} {a3 : Nat} {x4 : Int32} {x5 : Int32} {x6 : Int32} {x7 : Int32} {l9 : Int64} {x11 : Int32} {x12 : Int32} {x13 : Int32} {x15 : Int32} {x16 : Int32} {x17 : Int32} {x18 : Int32} {a19 : Nat} {a20 : Nat} {x21 : Int32} {x22 : Int32} {w : MW} (h0 : mTg w a1 = 9) : mX (d + 1) 169 594 [.ref a0, .ref a1, mJ, .ref a3, .int x4, .int x5, .int x6, .int x7, mJ, .long l9, mJ, .int x11, .int x12, .int x13, mJ, .int x15, .int x16, .int x17, .int x18, .ref a19, .ref a20, .int x21, .int x22, mJ, mJ, mJ, mJ, mJ, mJ, mJ, mJ, mJ] [] w = mThen (mK d 99 [.ref a1, .int (nI 12)] w) (fun v w9 => mX (d + 1) 169 602 [.ref a0, .ref a1, mJ, .ref a3, .int x4, .int x5, .int x6, .int x7, mJ, .long l9, mJ, .int x11, .int x12, .int x13, mJ, .int x15, .int x16, .int x17, .int x18, .ref a19, .ref a20, .int x21, .int x22, mJ, mJ, mJ, mJ, mJ, mJ, mJ, mJ, mJ] (v.toList ++ [.int x16]) w9) := by
  refine Eq.trans (X_st f_169_594 rfl rfl) ?_
  refine Eq.trans (X_st f_169_596 rfl rfl) ?_
  refine Eq.trans (X_bipush f_169_597 kc_b_12) ?_
  refine Eq.trans (X_call f_169_599 (by decide) rfl rfl rfl rfl rfl rfl (Nat.le_of_ble_eq_true rfl) (Nat.le_of_ble_eq_true rfl) (decide_eq_true h0) (Nat.le_of_ble_eq_true rfl)) ?_
  exact mThen_eq fun v w9 => mX_maskK lm_169_602 rfl
theorem b_169_602 {d : Nat} {a0 : Nat} {a1 : Nat} {a3 : Nat} {x4 : Int32} {x5 : Int32} {x6 : Int32} {x7 : Int32} {l9 : Int64} {x11 : Int32} {x12 : Int32} {x13 : Int32} {x15 : Int32} {x16 : Int32} {x17 : Int32} {x18 : Int32} {a19 : Nat} {a20 : Nat} {x21 : Int32} {x22 : Int32} {y0 : Int32} {y1 : Int32} {w : MW} : mX d 169 602 [.ref a0, .ref a1, mJ, .ref a3, .int x4, .int x5, .int x6, .int x7, mJ, .long l9, mJ, .int x11, .int x12, .int x13, mJ, .int x15, .int x16, .int x17, .int x18, .ref a19, .ref a20, .int x21, .int x22, mJ, mJ, mJ, mJ, mJ, mJ, mJ, mJ, mJ] [.int y0, .int y1] w = (if ¬ y1 = y0 then mX d 169 683 [mJ, mJ, mJ, mJ, mJ, mJ, mJ, mJ, mJ, mJ, mJ, mJ, mJ, mJ, mJ, mJ, mJ, mJ, mJ, mJ, mJ, mJ, mJ, mJ, mJ, mJ, mJ, mJ, mJ, mJ, mJ, mJ] [] w else mX d 169 605 [.ref a0, .ref a1, mJ, .ref a3, .int x4, .int x5, .int x6, .int x7, mJ, .long l9, mJ, .int x11, .int x12, .int x13, mJ, .int x15, .int x16, .int x17, .int x18, .ref a19, .ref a20, .int x21, .int x22, mJ, mJ, mJ, mJ, mJ, mJ, mJ, mJ, mJ] [] w) := by
  refine Eq.trans (X_br f_169_602 rfl rfl) ?_
  exact mIte_eq (mX_maskK lm_169_683 rfl) (mX_maskK lm_169_605 rfl)
theorem b_169_605 {d : Nat} {a0 : Nat} {a1 : Nat} {a3 : Nat} {x4 : Int32} {x5 : Int32} {x6 : Int32} {x7 : Int32} {l9 : Int64} {x11 : Int32} {x12 : Int32} {x13 : Int32} {x15 : Int32} {x16 : Int32} {x17 : Int32} {x18 : Int32} {a19 : Nat} {a20 : Nat} {x21 : Int32} {x22 : Int32} {w : MW} (h0 : mTg w a1 = 9) : mX (d + 1) 169 605 [.ref a0, .ref a1, mJ, .ref a3, .int x4, .int x5, .int x6, .int x7, mJ, .long l9, mJ, .int x11, .int x12, .int x13, mJ, .int x15, .int x16, .int x17, .int x18, .ref a19, .ref a20, .int x21, .int x22, mJ, mJ, mJ, mJ, mJ, mJ, mJ, mJ, mJ] [] w = mThen (mK d 99 [.ref a1, .int (nI 13)] w) (fun v w9 => mX (d + 1) 169 613 [.ref a0, .ref a1, mJ, .ref a3, .int x4, .int x5, .int x6, .int x7, mJ, .long l9, mJ, .int x11, .int x12, .int x13, mJ, .int x15, .int x16, mJ, .int x18, .ref a19, .ref a20, .int x21, .int x22, mJ, mJ, mJ, mJ, mJ, mJ, mJ, mJ, mJ] (v.toList ++ [.int x17]) w9) := by
  refine Eq.trans (X_st f_169_605 rfl rfl) ?_
  refine Eq.trans (X_st f_169_607 rfl rfl) ?_
  refine Eq.trans (X_bipush f_169_608 kc_b_13) ?_
  refine Eq.trans (X_call f_169_610 (by decide) rfl rfl rfl rfl rfl rfl (Nat.le_of_ble_eq_true rfl) (Nat.le_of_ble_eq_true rfl) (decide_eq_true h0) (Nat.le_of_ble_eq_true rfl)) ?_
  exact mThen_eq fun v w9 => mX_maskK lm_169_613 rfl
theorem b_169_613 {d : Nat} {a0 : Nat} {a1 : Nat} {a3 : Nat} {x4 : Int32} {x5 : Int32} {x6 : Int32} {x7 : Int32} {l9 : Int64} {x11 : Int32} {x12 : Int32} {x13 : Int32} {x15 : Int32} {x16 : Int32} {x18 : Int32} {a19 : Nat} {a20 : Nat} {x21 : Int32} {x22 : Int32} {y0 : Int32} {y1 : Int32} {w : MW} : mX d 169 613 [.ref a0, .ref a1, mJ, .ref a3, .int x4, .int x5, .int x6, .int x7, mJ, .long l9, mJ, .int x11, .int x12, .int x13, mJ, .int x15, .int x16, mJ, .int x18, .ref a19, .ref a20, .int x21, .int x22, mJ, mJ, mJ, mJ, mJ, mJ, mJ, mJ, mJ] [.int y0, .int y1] w = (if ¬ y1 = y0 then mX d 169 683 [mJ, mJ, mJ, mJ, mJ, mJ, mJ, mJ, mJ, mJ, mJ, mJ, mJ, mJ, mJ, mJ, mJ, mJ, mJ, mJ, mJ, mJ, mJ, mJ, mJ, mJ, mJ, mJ, mJ, mJ, mJ, mJ] [] w else mX d 169 616 [.ref a0, .ref a1, mJ, .ref a3, .int x4, .int x5, .int x6, .int x7, mJ, .long l9, mJ, .int x11, .int x12, .int x13, mJ, .int x15, .int x16, mJ, .int x18, .ref a19, .ref a20, .int x21, .int x22, mJ, mJ, mJ, mJ, mJ, mJ, mJ, mJ, mJ] [] w) := by
  refine Eq.trans (X_br f_169_613 rfl rfl) ?_
  exact mIte_eq (mX_maskK lm_169_683 rfl) (mX_maskK lm_169_616 rfl)
theorem b_169_616 {d : Nat} {a0 : Nat} {a1 : Nat} {a3 : Nat} {x4 : Int32} {x5 : Int32} {x6 : Int32} {x7 : Int32} {l9 : Int64} {x11 : Int32} {x12 : Int32} {x13 : Int32} {x15 : Int32} {x16 : Int32} {x18 : Int32} {a19 : Nat} {a20 : Nat} {x21 : Int32} {x22 : Int32} {w : MW} : mX d 169 616 [.ref a0, .ref a1, mJ, .ref a3, .int x4, .int x5, .int x6, .int x7, mJ, .long l9, mJ, .int x11, .int x12, .int x13, mJ, .int x15, .int x16, mJ, .int x18, .ref a19, .ref a20, .int x21, .int x22, mJ, mJ, mJ, mJ, mJ, mJ, mJ, mJ, mJ] [] w = (if ¬ x18 = (((nI 1) <<< (x4 &&& 31)) - (nI 1)) then mX d 169 683 [mJ, mJ, mJ, mJ, mJ, mJ, mJ, mJ, mJ, mJ, mJ, mJ, mJ, mJ, mJ, mJ, mJ, mJ, mJ, mJ, mJ, mJ, mJ, mJ, mJ, mJ, mJ, mJ, mJ, mJ, mJ, mJ] [] w else mX d 169 627 [.ref a0, .ref a1, mJ, .ref a3, .int x4, .int x5, .int x6, .int x7, mJ, .long l9, mJ, .int x11, .int x12, .int x13, mJ, .int x15, .int x16, mJ, mJ, .ref a19, .ref a20, .int x21, .int x22, mJ, mJ, mJ, mJ, mJ, mJ, mJ, mJ, mJ] [] w) := by
  refine Eq.trans (X_st f_169_616 rfl rfl) ?_
  refine Eq.trans (X_iconst f_169_618 kc_i_1) ?_
  refine Eq.trans (X_st f_169_619 rfl rfl) ?_
  refine Eq.trans (X_st f_169_621 rfl rfl) ?_
  refine Eq.trans (X_iconst f_169_622 kc_i_1) ?_
  refine Eq.trans (X_st f_169_623 rfl rfl) ?_
  refine Eq.trans (X_br f_169_624 rfl rfl) ?_
  exact mIte_eq (mX_maskK lm_169_683 rfl) (mX_maskK lm_169_627 rfl)
theorem b_169_627 {d : Nat} {a0 : Nat} {a1 : Nat} {a3 : Nat} {x4 : Int32} {x5 : Int32} {x6 : Int32} {x7 : Int32} {l9 : Int64} {x11 : Int32} {x12 : Int32} {x13 : Int32} {x15 : Int32} {x16 : Int32} {a19 : Nat} {a20 : Nat} {x21 : Int32} {x22 : Int32} {w : MW} : mX d 169 627 [.ref a0, .ref a1, mJ, .ref a3, .int x4, .int x5, .int x6, .int x7, mJ, .long l9, mJ, .int x11, .int x12, .int x13, mJ, .int x15, .int x16, mJ, mJ, .ref a19, .ref a20, .int x21, .int x22, mJ, mJ, mJ, mJ, mJ, mJ, mJ, mJ, mJ] [] w = (if ¬ x21 = (x15 + x16) then mX d 169 683 [mJ, mJ, mJ, mJ, mJ, mJ, mJ, mJ, mJ, mJ, mJ, mJ, mJ, mJ, mJ, mJ, mJ, mJ, mJ, mJ, mJ, mJ, mJ, mJ, mJ, mJ, mJ, mJ, mJ, mJ, mJ, mJ] [] w else mX d 169 637 [.ref a0, .ref a1, mJ, .ref a3, .int x4, .int x5, .int x6, .int x7, mJ, .long l9, mJ, .int x11, .int x12, .int x13, mJ, .int x15, mJ, mJ, mJ, .ref a19, .ref a20, .int x21, .int x22, mJ, mJ, mJ, mJ, mJ, mJ, mJ, mJ, mJ] [] w) := by
  refine Eq.trans (X_st f_169_627 rfl rfl) ?_
  refine Eq.trans (X_st f_169_629 rfl rfl) ?_
  refine Eq.trans (X_st f_169_631 rfl rfl) ?_
  refine Eq.trans (X_st f_169_633 rfl rfl) ?_
  refine Eq.trans (X_br f_169_634 rfl rfl) ?_
  exact mIte_eq (mX_maskK lm_169_683 rfl) (mX_maskK lm_169_637 rfl)
theorem b_169_637 {d : Nat} {a0 : Nat} {a1 : Nat} {a3 : Nat} {x4 : Int32} {x5 : Int32} {x6 : Int32} {x7 : Int32} {l9 : Int64} {x11 : Int32} {x12 : Int32} {x13 : Int32} {x15 : Int32} {a19 : Nat} {a20 : Nat} {x21 : Int32} {x22 : Int32} {w : MW} : mX d 169 637 [.ref a0, .ref a1, mJ, .ref a3, .int x4, .int x5, .int x6, .int x7, mJ, .long l9, mJ, .int x11, .int x12, .int x13, mJ, .int x15, mJ, mJ, mJ, .ref a19, .ref a20, .int x21, .int x22, mJ, mJ, mJ, mJ, mJ, mJ, mJ, mJ, mJ] [] w = (if ¬ x22 = x15 then mX d 169 683 [mJ, mJ, mJ, mJ, mJ, mJ, mJ, mJ, mJ, mJ, mJ, mJ, mJ, mJ, mJ, mJ, mJ, mJ, mJ, mJ, mJ, mJ, mJ, mJ, mJ, mJ, mJ, mJ, mJ, mJ, mJ, mJ] [] w else mX d 169 644 [.ref a0, .ref a1, mJ, .ref a3, .int x4, .int x5, .int x6, .int x7, mJ, .long l9, mJ, .int x11, .int x12, .int x13, mJ, .int x15, mJ, mJ, mJ, .ref a19, .ref a20, .int x21, mJ, mJ, mJ, mJ, mJ, mJ, mJ, mJ, mJ, mJ] [] w) := by
  refine Eq.trans (X_st f_169_637 rfl rfl) ?_
  refine Eq.trans (X_st f_169_639 rfl rfl) ?_
  refine Eq.trans (X_br f_169_641 rfl rfl) ?_
  exact mIte_eq (mX_maskK lm_169_683 rfl) (mX_maskK lm_169_644 rfl)
theorem b_169_644 {d : Nat} {a0 : Nat} {a1 : Nat} {a3 : Nat} {x4 : Int32} {x5 : Int32} {x6 : Int32} {x7 : Int32} {l9 : Int64} {x11 : Int32} {x12 : Int32} {x13 : Int32} {x15 : Int32} {a19 : Nat} {a20 : Nat} {x21 : Int32} {w : MW} (h0 : mTg w a1 = 9) : mX (d + 1) 169 644 [.ref a0, .ref a1, mJ, .ref a3, .int x4, .int x5, .int x6, .int x7, mJ, .long l9, mJ, .int x11, .int x12, .int x13, mJ, .int x15, mJ, mJ, mJ, .ref a19, .ref a20, .int x21, mJ, mJ, mJ, mJ, mJ, mJ, mJ, mJ, mJ, mJ] [] w = mThen (mK d 99 [.ref a1, .int (nI 0)] w) (fun v w9 => mX (d + 1) 169 649 [.ref a0, .ref a1, mJ, .ref a3, .int x4, .int x5, .int x6, .int x7, mJ, .long l9, mJ, .int x11, .int x12, .int x13, mJ, .int x15, mJ, mJ, mJ, .ref a19, .ref a20, .int x21, mJ, mJ, mJ, mJ, mJ, mJ, mJ, mJ, mJ, mJ] (v.toList ++ []) w9) := by
  refine Eq.trans (X_st f_169_644 rfl rfl) ?_
  refine Eq.trans (X_iconst f_169_645 kc_i_0) ?_
  refine Eq.trans (X_call f_169_646 (by decide) rfl rfl rfl rfl rfl rfl (Nat.le_of_ble_eq_true rfl) (Nat.le_of_ble_eq_true rfl) (decide_eq_true h0) (Nat.le_of_ble_eq_true rfl)) ?_
  exact mThen_eq fun v w9 => mX_maskK lm_169_649 rfl
theorem b_169_649 {d : Nat} {a0 : Nat} {a1 : Nat} {a3 : Nat} {x4 : Int32} {x5 : Int32} {x6 : Int32} {x7 : Int32} {l9 : Int64} {x11 : Int32} {x12 : Int32} {x13 : Int32} {x15 : Int32} {a19 : Nat} {a20 : Nat} {x21 : Int32} {y0 : Int32} {w : MW} (h0 : mTg w a1 = 9) : mX (d + 1) 169 649 [.ref a0, .ref a1, mJ, .ref a3, .int x4, .int x5, .int x6, .int x7, mJ, .long l9, mJ, .int x11, .int x12, .int x13, mJ, .int x15, mJ, mJ, mJ, .ref a19, .ref a20, .int x21, mJ, mJ, mJ, mJ, mJ, mJ, mJ, mJ, mJ, mJ] [.int y0] w = mThen (mK d 99 [.ref a1, .int (nI 14)] w) (fun v w9 => mX (d + 1) 169 657 [.ref a0, .ref a1, mJ, .ref a3, .int x4, .int x5, .int x6, .int x7, mJ, .long l9, mJ, .int x11, .int x12, .int x13, mJ, .int x15, mJ, mJ, mJ, .ref a19, .ref a20, mJ, mJ, mJ, mJ, mJ, mJ, mJ, mJ, mJ, mJ, mJ] (v.toList ++ [.int x21, .int y0]) w9) := by
  refine Eq.trans (X_st f_169_649 rfl rfl) ?_
  refine Eq.trans (X_st f_169_651 rfl rfl) ?_
  refine Eq.trans (X_bipush f_169_652 kc_b_14) ?_
  refine Eq.trans (X_call f_169_654 (by decide) rfl rfl rfl rfl rfl rfl (Nat.le_of_ble_eq_true rfl) (Nat.le_of_ble_eq_true rfl) (decide_eq_true h0) (Nat.le_of_ble_eq_true rfl)) ?_
  exact mThen_eq fun v w9 => mX_maskK lm_169_657 rfl
theorem b_169_657 {d : Nat} {a0 : Nat} {a1 : Nat} {a3 : Nat} {x4 : Int32} {x5 : Int32} {x6 : Int32} {x7 : Int32} {l9 : Int64} {x11 : Int32} {x12 : Int32} {x13 : Int32} {x15 : Int32} {a19 : Nat} {a20 : Nat} {y0 : Int32} {y1 : Int32} {y2 : Int32} {w : MW} : mX d 169 657 [.ref a0, .ref a1, mJ, .ref a3, .int x4, .int x5, .int x6, .int x7, mJ, .long l9, mJ, .int x11, .int x12, .int x13, mJ, .int x15, mJ, mJ, mJ, .ref a19, .ref a20, mJ, mJ, mJ, mJ, mJ, mJ, mJ, mJ, mJ, mJ, mJ] [.int y0, .int y1, .int y2] w = (if ¬ y2 = (y1 + y0) then mX d 169 683 [mJ, mJ, mJ, mJ, mJ, mJ, mJ, mJ, mJ, mJ, mJ, mJ, mJ, mJ, mJ, mJ, mJ, mJ, mJ, mJ, mJ, mJ, mJ, mJ, mJ, mJ, mJ, mJ, mJ, mJ, mJ, mJ] [] w else mX d 169 661 [.ref a0, .ref a1, mJ, .ref a3, .int x4, .int x5, .int x6, .int x7, mJ, .long l9, mJ, .int x11, .int x12, .int x13, mJ, .int x15, mJ, mJ, mJ, .ref a19, .ref a20, mJ, mJ, mJ, mJ, mJ, mJ, mJ, mJ, mJ, mJ, mJ] [] w) := by
  refine Eq.trans (X_st f_169_657 rfl rfl) ?_
  refine Eq.trans (X_br f_169_658 rfl rfl) ?_
  exact mIte_eq (mX_maskK lm_169_683 rfl) (mX_maskK lm_169_661 rfl)
theorem b_169_661 {d : Nat} {a0 : Nat} {a1 : Nat} {a3 : Nat} {x4 : Int32} {x5 : Int32} {x6 : Int32} {x7 : Int32} {l9 : Int64} {x11 : Int32} {x12 : Int32} {x13 : Int32} {x15 : Int32} {a19 : Nat} {a20 : Nat} {w : MW} (h0 : mTg w a1 = 9) : mX (d + 1) 169 661 [.ref a0, .ref a1, mJ, .ref a3, .int x4, .int x5, .int x6, .int x7, mJ, .long l9, mJ, .int x11, .int x12, .int x13, mJ, .int x15, mJ, mJ, mJ, .ref a19, .ref a20, mJ, mJ, mJ, mJ, mJ, mJ, mJ, mJ, mJ, mJ, mJ] [] w = mThen (mK d 99 [.ref a1, .int (nI 15)] w) (fun v w9 => mX (d + 1) 169 667 [.ref a0, .ref a1, mJ, .ref a3, .int x4, .int x5, .int x6, .int x7, mJ, .long l9, mJ, .int x11, .int x12, .int x13, mJ, .int x15, mJ, mJ, mJ, .ref a19, .ref a20, mJ, mJ, mJ, mJ, mJ, mJ, mJ, mJ, mJ, mJ, mJ] (v.toList ++ []) w9) := by
  refine Eq.trans (X_st f_169_661 rfl rfl) ?_
  refine Eq.trans (X_bipush f_169_662 kc_b_15) ?_
  refine Eq.trans (X_call f_169_664 (by decide) rfl rfl rfl rfl rfl rfl (Nat.le_of_ble_eq_true rfl) (Nat.le_of_ble_eq_true rfl) (decide_eq_true h0) (Nat.le_of_ble_eq_true rfl)) ?_
  exact mThen_eq fun v w9 => mX_maskK lm_169_667 rfl
theorem b_169_667 {d : Nat} {a0 : Nat} {a1 : Nat} {a3 : Nat} {x4 : Int32} {x5 : Int32} {x6 : Int32} {x7 : Int32} {l9 : Int64} {x11 : Int32} {x12 : Int32} {x13 : Int32} {x15 : Int32} {a19 : Nat} {a20 : Nat} {y0 : Int32} {w : MW} : mX d 169 667 [.ref a0, .ref a1, mJ, .ref a3, .int x4, .int x5, .int x6, .int x7, mJ, .long l9, mJ, .int x11, .int x12, .int x13, mJ, .int x15, mJ, mJ, mJ, .ref a19, .ref a20, mJ, mJ, mJ, mJ, mJ, mJ, mJ, mJ, mJ, mJ, mJ] [.int y0] w = (if x15 < y0 then mX d 169 683 [mJ, mJ, mJ, mJ, mJ, mJ, mJ, mJ, mJ, mJ, mJ, mJ, mJ, mJ, mJ, mJ, mJ, mJ, mJ, mJ, mJ, mJ, mJ, mJ, mJ, mJ, mJ, mJ, mJ, mJ, mJ, mJ] [] w else mX d 169 672 [.ref a0, .ref a1, mJ, .ref a3, .int x4, .int x5, .int x6, .int x7, mJ, .long l9, mJ, .int x11, .int x12, .int x13, mJ, mJ, mJ, mJ, mJ, .ref a19, .ref a20, mJ, mJ, mJ, mJ, mJ, mJ, mJ, mJ, mJ, mJ, mJ] [] w) := by
  refine Eq.trans (X_st f_169_667 rfl rfl) ?_
  refine Eq.trans (X_br f_169_669 rfl rfl) ?_
  exact mIte_eq (mX_maskK lm_169_683 rfl) (mX_maskK lm_169_672 rfl)
theorem b_169_672 {d : Nat} {a0 : Nat} {a1 : Nat} {a3 : Nat} {x4 : Int32} {x5 : Int32} {x6 : Int32} {x7 : Int32} {l9 : Int64} {x11 : Int32} {x12 : Int32} {x13 : Int32} {a19 : Nat} {a20 : Nat} {w : MW} (h0 : mTg w a1 = 9) : mX (d + 1) 169 672 [.ref a0, .ref a1, mJ, .ref a3, .int x4, .int x5, .int x6, .int x7, mJ, .long l9, mJ, .int x11, .int x12, .int x13, mJ, mJ, mJ, mJ, mJ, .ref a19, .ref a20, mJ, mJ, mJ, mJ, mJ, mJ, mJ, mJ, mJ, mJ, mJ] [] w = mThen (mK d 99 [.ref a1, .int (nI 16)] w) (fun v w9 => mX (d + 1) 169 678 [.ref a0, .ref a1, mJ, .ref a3, .int x4, .int x5, .int x6, .int x7, mJ, .long l9, mJ, .int x11, .int x12, .int x13, mJ, mJ, mJ, mJ, mJ, .ref a19, .ref a20, mJ, mJ, mJ, mJ, mJ, mJ, mJ, mJ, mJ, mJ, mJ] (v.toList ++ []) w9) := by
  refine Eq.trans (X_st f_169_672 rfl rfl) ?_
  refine Eq.trans (X_bipush f_169_673 kc_b_16) ?_
  refine Eq.trans (X_call f_169_675 (by decide) rfl rfl rfl rfl rfl rfl (Nat.le_of_ble_eq_true rfl) (Nat.le_of_ble_eq_true rfl) (decide_eq_true h0) (Nat.le_of_ble_eq_true rfl)) ?_
  exact mThen_eq fun v w9 => mX_maskK lm_169_678 rfl
theorem b_169_678 {d : Nat} {a0 : Nat} {a1 : Nat} {a3 : Nat} {x4 : Int32} {x5 : Int32} {x6 : Int32} {x7 : Int32} {l9 : Int64} {x11 : Int32} {x12 : Int32} {x13 : Int32} {a19 : Nat} {a20 : Nat} {y0 : Int32} {w : MW} : mX d 169 678 [.ref a0, .ref a1, mJ, .ref a3, .int x4, .int x5, .int x6, .int x7, mJ, .long l9, mJ, .int x11, .int x12, .int x13, mJ, mJ, mJ, mJ, mJ, .ref a19, .ref a20, mJ, mJ, mJ, mJ, mJ, mJ, mJ, mJ, mJ, mJ, mJ] [.int y0] w = (if y0 ≤ x4 then mX d 169 685 [.ref a0, .ref a1, mJ, .ref a3, .int x4, .int x5, .int x6, .int x7, mJ, .long l9, mJ, .int x11, .int x12, .int x13, mJ, mJ, mJ, mJ, mJ, .ref a19, .ref a20, mJ, mJ, mJ, mJ, mJ, mJ, mJ, mJ, mJ, mJ, mJ] [] w else mX d 169 683 [mJ, mJ, mJ, mJ, mJ, mJ, mJ, mJ, mJ, mJ, mJ, mJ, mJ, mJ, mJ, mJ, mJ, mJ, mJ, mJ, mJ, mJ, mJ, mJ, mJ, mJ, mJ, mJ, mJ, mJ, mJ, mJ] [] w) := by
  refine Eq.trans (X_st f_169_678 rfl rfl) ?_
  refine Eq.trans (X_br f_169_680 rfl rfl) ?_
  exact mIte_eq (mX_maskK lm_169_685 rfl) (mX_maskK lm_169_683 rfl)
theorem b_169_683 {d : Nat} {w : MW} : mX d 169 683 [mJ, mJ, mJ, mJ, mJ, mJ, mJ, mJ, mJ, mJ, mJ, mJ, mJ, mJ, mJ, mJ, mJ, mJ, mJ, mJ, mJ, mJ, mJ, mJ, mJ, mJ, mJ, mJ, mJ, mJ, mJ, mJ] [] w = some (.inl (some (.int (nI 0))), w) := by
  refine Eq.trans (X_iconst f_169_683 kc_i_0) ?_
  exact X_ireturn f_169_684 rfl
theorem b_169_685 {d : Nat} {a0 : Nat} {a1 : Nat} {a3 : Nat} {x4 : Int32} {x5 : Int32} {x6 : Int32} {x7 : Int32} {l9 : Int64} {x11 : Int32} {x12 : Int32} {x13 : Int32} {a19 : Nat} {a20 : Nat} {w : MW} : mX d 169 685 [.ref a0, .ref a1, mJ, .ref a3, .int x4, .int x5, .int x6, .int x7, mJ, .long l9, mJ, .int x11, .int x12, .int x13, mJ, mJ, mJ, mJ, mJ, .ref a19, .ref a20, mJ, mJ, mJ, mJ, mJ, mJ, mJ, mJ, mJ, mJ, mJ] [] w = (if nI 0 ≤ x11 then mX d 169 713 [.ref a0, .ref a1, mJ, .ref a3, .int x4, .int x5, .int x6, .int x7, mJ, .long l9, mJ, .int x11, .int x12, .int x13, mJ, mJ, mJ, mJ, mJ, .ref a19, .ref a20, mJ, mJ, mJ, mJ, mJ, mJ, mJ, mJ, mJ, mJ, mJ] [] w else mX d 169 690 [.ref a0, .ref a1, mJ, .ref a3, .int x4, .int x5, .int x6, .int x7, mJ, .long l9, mJ, .int x11, .int x12, .int x13, mJ, mJ, mJ, mJ, mJ, .ref a19, .ref a20, mJ, mJ, mJ, mJ, mJ, mJ, mJ, mJ, mJ, mJ, mJ] [] w) := by
  refine Eq.trans (X_st f_169_685 rfl rfl) ?_
  refine Eq.trans (X_br f_169_687 rfl rfl) ?_
  exact mIte_eq (mX_maskK lm_169_713 rfl) (mX_maskK lm_169_690 rfl)
theorem b_169_690 {d : Nat} {a0 : Nat} {a1 : Nat} {a3 : Nat} {x4 : Int32} {x5 : Int32} {x6 : Int32} {x7 : Int32} {l9 : Int64} {x11 : Int32} {x12 : Int32} {x13 : Int32} {a19 : Nat} {a20 : Nat} {w : MW} : mX d 169 690 [.ref a0, .ref a1, mJ, .ref a3, .int x4, .int x5, .int x6, .int x7, mJ, .long l9, mJ, .int x11, .int x12, .int x13, mJ, mJ, mJ, mJ, mJ, .ref a19, .ref a20, mJ, mJ, mJ, mJ, mJ, mJ, mJ, mJ, mJ, mJ, mJ] [] w = (if ¬ x12 = (-1 : Int32) then mX d 169 736 [mJ, mJ, mJ, mJ, mJ, mJ, mJ, mJ, mJ, mJ, mJ, mJ, mJ, mJ, mJ, mJ, mJ, mJ, mJ, mJ, mJ, mJ, mJ, mJ, mJ, mJ, mJ, mJ, mJ, mJ, mJ, mJ] [] w else mX d 169 696 [.ref a0, .ref a1, mJ, .ref a3, .int x4, .int x5, .int x6, .int x7, mJ, .long l9, mJ, .int x11, .int x12, .int x13, mJ, mJ, mJ, mJ, mJ, .ref a19, .ref a20, mJ, mJ, mJ, mJ, mJ, mJ, mJ, mJ, mJ, mJ, mJ] [] w) := by
  refine Eq.trans (X_st f_169_690 rfl rfl) ?_
  refine Eq.trans (X_iconst f_169_692 kc_i_m1) ?_
  refine Eq.trans (X_br f_169_693 rfl rfl) ?_
  exact mIte_eq (mX_maskK lm_169_736 rfl) (mX_maskK lm_169_696 rfl)
theorem b_169_696 {d : Nat} {a0 : Nat} {a1 : Nat} {a3 : Nat} {x4 : Int32} {x5 : Int32} {x6 : Int32} {x7 : Int32} {l9 : Int64} {x11 : Int32} {x12 : Int32} {x13 : Int32} {a19 : Nat} {a20 : Nat} {w : MW} : mX d 169 696 [.ref a0, .ref a1, mJ, .ref a3, .int x4, .int x5, .int x6, .int x7, mJ, .long l9, mJ, .int x11, .int x12, .int x13, mJ, mJ, mJ, mJ, mJ, .ref a19, .ref a20, mJ, mJ, mJ, mJ, mJ, mJ, mJ, mJ, mJ, mJ, mJ] [] w = (if ¬ x13 = (-1 : Int32) then mX d 169 736 [mJ, mJ, mJ, mJ, mJ, mJ, mJ, mJ, mJ, mJ, mJ, mJ, mJ, mJ, mJ, mJ, mJ, mJ, mJ, mJ, mJ, mJ, mJ, mJ, mJ, mJ, mJ, mJ, mJ, mJ, mJ, mJ] [] w else mX d 169 702 [.ref a0, .ref a1, mJ, .ref a3, .int x4, .int x5, .int x6, .int x7, mJ, .long l9, mJ, .int x11, .int x12, .int x13, mJ, mJ, mJ, mJ, mJ, .ref a19, .ref a20, mJ, mJ, mJ, mJ, mJ, mJ, mJ, mJ, mJ, mJ, mJ] [] w) := by
  refine Eq.trans (X_st f_169_696 rfl rfl) ?_
  refine Eq.trans (X_iconst f_169_698 kc_i_m1) ?_
  refine Eq.trans (X_br f_169_699 rfl rfl) ?_
  exact mIte_eq (mX_maskK lm_169_736 rfl) (mX_maskK lm_169_702 rfl)
theorem b_169_702 {d : Nat} {a0 : Nat} {a1 : Nat} {a3 : Nat} {x4 : Int32} {x5 : Int32} {x6 : Int32} {x7 : Int32} {l9 : Int64} {x11 : Int32} {x12 : Int32} {x13 : Int32} {a19 : Nat} {a20 : Nat} {w : MW} (h0 : mTg w a1 = 9) : mX (d + 1) 169 702 [.ref a0, .ref a1, mJ, .ref a3, .int x4, .int x5, .int x6, .int x7, mJ, .long l9, mJ, .int x11, .int x12, .int x13, mJ, mJ, mJ, mJ, mJ, .ref a19, .ref a20, mJ, mJ, mJ, mJ, mJ, mJ, mJ, mJ, mJ, mJ, mJ] [] w = mThen (mK d 115 [.ref a1] w) (fun v w9 => mX (d + 1) 169 706 [.ref a0, .ref a1, mJ, .ref a3, .int x4, .int x5, .int x6, .int x7, mJ, .long l9, mJ, .int x11, .int x12, .int x13, mJ, mJ, mJ, mJ, mJ, .ref a19, .ref a20, mJ, mJ, mJ, mJ, mJ, mJ, mJ, mJ, mJ, mJ, mJ] (v.toList ++ []) w9) := by
  refine Eq.trans (X_st f_169_702 rfl rfl) ?_
  refine Eq.trans (X_call f_169_703 (by decide) rfl rfl rfl rfl rfl rfl (Nat.le_of_ble_eq_true rfl) (Nat.le_of_ble_eq_true rfl) (decide_eq_true h0) (Nat.le_of_ble_eq_true rfl)) ?_
  exact mThen_eq fun v w9 => mX_maskK lm_169_706 rfl
theorem b_169_706 {d : Nat} {a0 : Nat} {a1 : Nat} {a3 : Nat} {x4 : Int32} {x5 : Int32} {x6 : Int32} {x7 : Int32} {l9 : Int64} {x11 : Int32} {x12 : Int32} {x13 : Int32} {a19 : Nat} {a20 : Nat} {y0 : Int32} {w : MW} : mX d 169 706 [.ref a0, .ref a1, mJ, .ref a3, .int x4, .int x5, .int x6, .int x7, mJ, .long l9, mJ, .int x11, .int x12, .int x13, mJ, mJ, mJ, mJ, mJ, .ref a19, .ref a20, mJ, mJ, mJ, mJ, mJ, mJ, mJ, mJ, mJ, mJ, mJ] [.int y0] w = (if y0 = (-1 : Int32) then mX d 169 738 [.ref a0, .ref a1, mJ, .ref a3, .int x4, .int x5, .int x6, .int x7, mJ, .long l9, mJ, .int x11, .int x12, .int x13, mJ, mJ, mJ, mJ, mJ, .ref a19, .ref a20, mJ, mJ, mJ, mJ, mJ, mJ, mJ, mJ, mJ, mJ, mJ] [] w else mX d 169 710 [mJ, mJ, mJ, mJ, mJ, mJ, mJ, mJ, mJ, mJ, mJ, mJ, mJ, mJ, mJ, mJ, mJ, mJ, mJ, mJ, mJ, mJ, mJ, mJ, mJ, mJ, mJ, mJ, mJ, mJ, mJ, mJ] [] w) := by
  refine Eq.trans (X_iconst f_169_706 kc_i_m1) ?_
  refine Eq.trans (X_br f_169_707 rfl rfl) ?_
  exact mIte_eq (mX_maskK lm_169_738 rfl) (mX_maskK lm_169_710 rfl)
theorem b_169_710 {d : Nat} {w : MW} : mX d 169 710 [mJ, mJ, mJ, mJ, mJ, mJ, mJ, mJ, mJ, mJ, mJ, mJ, mJ, mJ, mJ, mJ, mJ, mJ, mJ, mJ, mJ, mJ, mJ, mJ, mJ, mJ, mJ, mJ, mJ, mJ, mJ, mJ] [] w = mX d 169 736 [mJ, mJ, mJ, mJ, mJ, mJ, mJ, mJ, mJ, mJ, mJ, mJ, mJ, mJ, mJ, mJ, mJ, mJ, mJ, mJ, mJ, mJ, mJ, mJ, mJ, mJ, mJ, mJ, mJ, mJ, mJ, mJ] [] w := by
  refine Eq.trans (X_st f_169_710 rfl rfl) ?_
  exact mX_maskK lm_169_736 rfl
theorem b_169_713 {d : Nat} {a0 : Nat} {a1 : Nat} {a3 : Nat} {x4 : Int32} {x5 : Int32} {x6 : Int32} {x7 : Int32} {l9 : Int64} {x11 : Int32} {x12 : Int32} {x13 : Int32} {a19 : Nat} {a20 : Nat} {w : MW} (h0 : mTg w a1 = 9) : mX (d + 1) 169 713 [.ref a0, .ref a1, mJ, .ref a3, .int x4, .int x5, .int x6, .int x7, mJ, .long l9, mJ, .int x11, .int x12, .int x13, mJ, mJ, mJ, mJ, mJ, .ref a19, .ref a20, mJ, mJ, mJ, mJ, mJ, mJ, mJ, mJ, mJ, mJ, mJ] [] w = mThen (mK d 103 [.ref a1, .int x12, .int (nI 0)] w) (fun v w9 => mX (d + 1) 169 720 [.ref a0, .ref a1, mJ, .ref a3, .int x4, .int x5, .int x6, .int x7, mJ, .long l9, mJ, .int x11, .int x12, .int x13, mJ, mJ, mJ, mJ, mJ, .ref a19, .ref a20, mJ, mJ, mJ, mJ, mJ, mJ, mJ, mJ, mJ, mJ, mJ] (v.toList ++ []) w9) := by
  refine Eq.trans (X_st f_169_713 rfl rfl) ?_
  refine Eq.trans (X_st f_169_714 rfl rfl) ?_
  refine Eq.trans (X_iconst f_169_716 kc_i_0) ?_
  refine Eq.trans (X_call f_169_717 (by decide) rfl rfl rfl rfl rfl rfl (Nat.le_of_ble_eq_true rfl) (Nat.le_of_ble_eq_true rfl) (decide_eq_true h0) (Nat.le_of_ble_eq_true rfl)) ?_
  exact mThen_eq fun v w9 => mX_maskK lm_169_720 rfl
theorem b_169_720 {d : Nat} {a0 : Nat} {a1 : Nat} {a3 : Nat} {x4 : Int32} {x5 : Int32} {x6 : Int32} {x7 : Int32} {l9 : Int64} {x11 : Int32} {x12 : Int32} {x13 : Int32} {a19 : Nat} {a20 : Nat} {y0 : Int32} {w : MW} : mX d 169 720 [.ref a0, .ref a1, mJ, .ref a3, .int x4, .int x5, .int x6, .int x7, mJ, .long l9, mJ, .int x11, .int x12, .int x13, mJ, mJ, mJ, mJ, mJ, .ref a19, .ref a20, mJ, mJ, mJ, mJ, mJ, mJ, mJ, mJ, mJ, mJ, mJ] [.int y0] w = (if ¬ y0 = (nI 1) then mX d 169 736 [mJ, mJ, mJ, mJ, mJ, mJ, mJ, mJ, mJ, mJ, mJ, mJ, mJ, mJ, mJ, mJ, mJ, mJ, mJ, mJ, mJ, mJ, mJ, mJ, mJ, mJ, mJ, mJ, mJ, mJ, mJ, mJ] [] w else mX d 169 724 [.ref a0, .ref a1, mJ, .ref a3, .int x4, .int x5, .int x6, .int x7, mJ, .long l9, mJ, .int x11, .int x12, .int x13, mJ, mJ, mJ, mJ, mJ, .ref a19, .ref a20, mJ, mJ, mJ, mJ, mJ, mJ, mJ, mJ, mJ, mJ, mJ] [] w) := by
  refine Eq.trans (X_iconst f_169_720 kc_i_1) ?_
  refine Eq.trans (X_br f_169_721 rfl rfl) ?_
  exact mIte_eq (mX_maskK lm_169_736 rfl) (mX_maskK lm_169_724 rfl)
theorem b_169_724 {d : Nat} {a0 : Nat} {a1 : Nat} {a3 : Nat} {x4 : Int32} {x5 : Int32} {x6 : Int32} {x7 : Int32} {l9 : Int64} {x11 : Int32} {x12 : Int32} {x13 : Int32} {a19 : Nat} {a20 : Nat} {w : MW} : mX d 169 724 [.ref a0, .ref a1, mJ, .ref a3, .int x4, .int x5, .int x6, .int x7, mJ, .long l9, mJ, .int x11, .int x12, .int x13, mJ, mJ, mJ, mJ, mJ, .ref a19, .ref a20, mJ, mJ, mJ, mJ, mJ, mJ, mJ, mJ, mJ, mJ, mJ] [] w = (if x13 < nI 0 then mX d 169 736 [mJ, mJ, mJ, mJ, mJ, mJ, mJ, mJ, mJ, mJ, mJ, mJ, mJ, mJ, mJ, mJ, mJ, mJ, mJ, mJ, mJ, mJ, mJ, mJ, mJ, mJ, mJ, mJ, mJ, mJ, mJ, mJ] [] w else mX d 169 729 [.ref a0, .ref a1, mJ, .ref a3, .int x4, .int x5, .int x6, .int x7, mJ, .long l9, mJ, .int x11, .int x12, .int x13, mJ, mJ, mJ, mJ, mJ, .ref a19, .ref a20, mJ, mJ, mJ, mJ, mJ, mJ, mJ, mJ, mJ, mJ, mJ] [] w) := by
  refine Eq.trans (X_st f_169_724 rfl rfl) ?_
  refine Eq.trans (X_br f_169_726 rfl rfl) ?_
  exact mIte_eq (mX_maskK lm_169_736 rfl) (mX_maskK lm_169_729 rfl)
theorem b_169_729 {d : Nat} {a0 : Nat} {a1 : Nat} {a3 : Nat} {x4 : Int32} {x5 : Int32} {x6 : Int32} {x7 : Int32} {l9 : Int64} {x11 : Int32} {x12 : Int32} {x13 : Int32} {a19 : Nat} {a20 : Nat} {w : MW} (h0 : mTg w a1 = 9) : mX (d + 1) 169 729 [.ref a0, .ref a1, mJ, .ref a3, .int x4, .int x5, .int x6, .int x7, mJ, .long l9, mJ, .int x11, .int x12, .int x13, mJ, mJ, mJ, mJ, mJ, .ref a19, .ref a20, mJ, mJ, mJ, mJ, mJ, mJ, mJ, mJ, mJ, mJ, mJ] [] w = mThen (mK d 115 [.ref a1] w) (fun v w9 => mX (d + 1) 169 733 [.ref a0, .ref a1, mJ, .ref a3, .int x4, .int x5, .int x6, .int x7, mJ, .long l9, mJ, .int x11, .int x12, .int x13, mJ, mJ, mJ, mJ, mJ, .ref a19, .ref a20, mJ, mJ, mJ, mJ, mJ, mJ, mJ, mJ, mJ, mJ, mJ] (v.toList ++ []) w9) := by
  refine Eq.trans (X_st f_169_729 rfl rfl) ?_
  refine Eq.trans (X_call f_169_730 (by decide) rfl rfl rfl rfl rfl rfl (Nat.le_of_ble_eq_true rfl) (Nat.le_of_ble_eq_true rfl) (decide_eq_true h0) (Nat.le_of_ble_eq_true rfl)) ?_
  exact mThen_eq fun v w9 => mX_maskK lm_169_733 rfl
theorem b_169_733 {d : Nat} {a0 : Nat} {a1 : Nat} {a3 : Nat} {x4 : Int32} {x5 : Int32} {x6 : Int32} {x7 : Int32} {l9 : Int64} {x11 : Int32} {x12 : Int32} {x13 : Int32} {a19 : Nat} {a20 : Nat} {y0 : Int32} {w : MW} : mX d 169 733 [.ref a0, .ref a1, mJ, .ref a3, .int x4, .int x5, .int x6, .int x7, mJ, .long l9, mJ, .int x11, .int x12, .int x13, mJ, mJ, mJ, mJ, mJ, .ref a19, .ref a20, mJ, mJ, mJ, mJ, mJ, mJ, mJ, mJ, mJ, mJ, mJ] [.int y0] w = (if nI 0 ≤ y0 then mX d 169 738 [.ref a0, .ref a1, mJ, .ref a3, .int x4, .int x5, .int x6, .int x7, mJ, .long l9, mJ, .int x11, .int x12, .int x13, mJ, mJ, mJ, mJ, mJ, .ref a19, .ref a20, mJ, mJ, mJ, mJ, mJ, mJ, mJ, mJ, mJ, mJ, mJ] [] w else mX d 169 736 [mJ, mJ, mJ, mJ, mJ, mJ, mJ, mJ, mJ, mJ, mJ, mJ, mJ, mJ, mJ, mJ, mJ, mJ, mJ, mJ, mJ, mJ, mJ, mJ, mJ, mJ, mJ, mJ, mJ, mJ, mJ, mJ] [] w) := by
  refine Eq.trans (X_br f_169_733 rfl rfl) ?_
  exact mIte_eq (mX_maskK lm_169_738 rfl) (mX_maskK lm_169_736 rfl)
theorem b_169_736 {d : Nat} {w : MW} : mX d 169 736 [mJ, mJ, mJ, mJ, mJ, mJ, mJ, mJ, mJ, mJ, mJ, mJ, mJ, mJ, mJ, mJ, mJ, mJ, mJ, mJ, mJ, mJ, mJ, mJ, mJ, mJ, mJ, mJ, mJ, mJ, mJ, mJ] [] w = some (.inl (some (.int (nI 0))), w) := by
  refine Eq.trans (X_iconst f_169_736 kc_i_0) ?_
  exact X_ireturn f_169_737 rfl
theorem b_169_738 {d : Nat} {a0 : Nat} {a1 : Nat} {a3 : Nat} {x4 : Int32} {x5 : Int32} {x6 : Int32} {x7 : Int32} {l9 : Int64} {x11 : Int32} {x12 : Int32} {x13 : Int32} {a19 : Nat} {a20 : Nat} {w : MW} (h0 : mTg w a1 = 9) : mX (d + 1) 169 738 [.ref a0, .ref a1, mJ, .ref a3, .int x4, .int x5, .int x6, .int x7, mJ, .long l9, mJ, .int x11, .int x12, .int x13, mJ, mJ, mJ, mJ, mJ, .ref a19, .ref a20, mJ, mJ, mJ, mJ, mJ, mJ, mJ, mJ, mJ, mJ, mJ] [] w = mThen (mK d 114 [.ref a1] w) (fun v w9 => mX (d + 1) 169 742 [.ref a0, .ref a1, mJ, .ref a3, .int x4, .int x5, .int x6, .int x7, mJ, .long l9, mJ, .int x11, .int x12, .int x13, mJ, mJ, mJ, mJ, mJ, .ref a19, .ref a20, mJ, mJ, mJ, mJ, mJ, mJ, mJ, mJ, mJ, mJ, mJ] (v.toList ++ []) w9) := by
  refine Eq.trans (X_st f_169_738 rfl rfl) ?_
  refine Eq.trans (X_call f_169_739 (by decide) rfl rfl rfl rfl rfl rfl (Nat.le_of_ble_eq_true rfl) (Nat.le_of_ble_eq_true rfl) (decide_eq_true h0) (Nat.le_of_ble_eq_true rfl)) ?_
  exact mThen_eq fun v w9 => mX_maskK lm_169_742 rfl
theorem b_169_742 {d : Nat} {a0 : Nat} {a1 : Nat} {a3 : Nat} {x4 : Nat} {x5 : Int32} {x6 : Int32} {x7 : Int32} {l9 : Int64} {x11 : Int32} {x12 : Int32} {x13 : Int32} {a19 : Nat} {a20 : Nat} {y0 : Int32} {w : MW} (h0 : x4 < 2147483648) (h1 : x4 ≤ 134217728) : mX d 169 742 [.ref a0, .ref a1, mJ, .ref a3, .int (nI x4), .int x5, .int x6, .int x7, mJ, .long l9, mJ, .int x11, .int x12, .int x13, mJ, mJ, mJ, mJ, mJ, .ref a19, .ref a20, mJ, mJ, mJ, mJ, mJ, mJ, mJ, mJ, mJ, mJ, mJ] [.int y0] w = mX d 169 748 [.ref a0, .ref a1, mJ, .ref a3, .int (nI x4), .int x5, .int x6, .int x7, mJ, .long l9, mJ, .int x11, .int x12, .int x13, mJ, mJ, mJ, mJ, mJ, .ref a19, .ref a20, mJ, mJ, .int y0, mJ, mJ, mJ, mJ, mJ, mJ, mJ, mJ] [.ref (mSz w)] (wN w 50 x4 x4) := by
  refine Eq.trans (X_istore (L' := [.ref a0, .ref a1, mJ, .ref a3, .int (nI x4), .int x5, .int x6, .int x7, mJ, .long l9, mJ, .int x11, .int x12, .int x13, mJ, mJ, mJ, mJ, mJ, .ref a19, .ref a20, mJ, mJ, .int y0, mJ, mJ, mJ, mJ, mJ, mJ, mJ, mJ]) f_169_742 (Nat.le_of_ble_eq_true rfl) rfl) ?_
  refine Eq.trans (X_st f_169_744 rfl rfl) ?_
  refine Eq.trans (X_newa f_169_746 (jnn h0) (jcl h0) h1) ?_
  exact mX_maskK lm_169_748 rfl
theorem b_169_748 {d : Nat} {a0 : Nat} {a1 : Nat} {a3 : Nat} {x4 : Int32} {x5 : Int32} {x6 : Int32} {x7 : Int32} {l9 : Int64} {x11 : Int32} {x12 : Int32} {x13 : Int32} {a19 : Nat} {a20 : Nat} {x23 : Int32} {b0 : Nat} {w : MW} : mX d 169 748 [.ref a0, .ref a1, mJ, .ref a3, .int x4, .int x5, .int x6, .int x7, mJ, .long l9, mJ, .int x11, .int x12, .int x13, mJ, mJ, mJ, mJ, mJ, .ref a19, .ref a20, mJ, mJ, .int x23, mJ, mJ, mJ, mJ, mJ, mJ, mJ, mJ] [.ref b0] w = mX d 169 753 [.ref a0, .ref a1, mJ, .ref a3, .int x4, .int x5, .int x6, .int x7, mJ, .long l9, mJ, .int x11, .int x12, .int x13, mJ, mJ, mJ, mJ, mJ, .ref a19, .ref a20, mJ, mJ, .int x23, .ref b0, .int (nI 0), mJ, mJ, mJ, mJ, mJ, mJ] [] w := by
  refine Eq.trans (X_astore (L' := [.ref a0, .ref a1, mJ, .ref a3, .int x4, .int x5, .int x6, .int x7, mJ, .long l9, mJ, .int x11, .int x12, .int x13, mJ, mJ, mJ, mJ, mJ, .ref a19, .ref a20, mJ, mJ, .int x23, .ref b0, mJ, mJ, mJ, mJ, mJ, mJ, mJ]) f_169_748 (Nat.le_of_ble_eq_true rfl) rfl) ?_
  refine Eq.trans (X_iconst f_169_750 kc_i_0) ?_
  refine Eq.trans (X_istore (L' := [.ref a0, .ref a1, mJ, .ref a3, .int x4, .int x5, .int x6, .int x7, mJ, .long l9, mJ, .int x11, .int x12, .int x13, mJ, mJ, mJ, mJ, mJ, .ref a19, .ref a20, mJ, mJ, .int x23, .ref b0, .int (nI 0), mJ, mJ, mJ, mJ, mJ, mJ]) f_169_751 (Nat.le_of_ble_eq_true rfl) rfl) ?_
  exact mX_maskK lm_169_753 rfl
theorem b_169_753 {d : Nat} {a0 : Nat} {a1 : Nat} {a3 : Nat} {x4 : Int32} {x5 : Int32} {x6 : Int32} {x7 : Int32} {l9 : Int64} {x11 : Int32} {x12 : Int32} {x13 : Int32} {a19 : Nat} {a20 : Nat} {x23 : Int32} {a24 : Nat} {x25 : Int32} {w : MW} : mX d 169 753 [.ref a0, .ref a1, mJ, .ref a3, .int x4, .int x5, .int x6, .int x7, mJ, .long l9, mJ, .int x11, .int x12, .int x13, mJ, mJ, mJ, mJ, mJ, .ref a19, .ref a20, mJ, mJ, .int x23, .ref a24, .int x25, mJ, mJ, mJ, mJ, mJ, mJ] [] w = (if x4 ≤ x25 then mX d 169 810 [.ref a0, .ref a1, mJ, .ref a3, .int x4, .int x5, .int x6, .int x7, mJ, .long l9, mJ, .int x11, .int x12, .int x13, mJ, mJ, mJ, mJ, mJ, .ref a19, .ref a20, mJ, mJ, .int x23, .ref a24, mJ, mJ, mJ, mJ, mJ, mJ, mJ] [] w else mX d 169 760 [.ref a0, .ref a1, mJ, .ref a3, .int x4, .int x5, .int x6, .int x7, mJ, .long l9, mJ, .int x11, .int x12, .int x13, mJ, mJ, mJ, mJ, mJ, .ref a19, .ref a20, mJ, mJ, .int x23, .ref a24, .int x25, mJ, mJ, mJ, mJ, mJ, mJ] [] w) := by
  refine Eq.trans (X_st f_169_753 rfl rfl) ?_
  refine Eq.trans (X_st f_169_755 rfl rfl) ?_
  refine Eq.trans (X_br f_169_757 rfl rfl) ?_
  exact mIte_eq (mX_maskK lm_169_810 rfl) (mX_maskK lm_169_760 rfl)
theorem b_169_760 {d : Nat} {a0 : Nat} {a1 : Nat} {a3 : Nat} {x4 : Int32} {x5 : Int32} {x6 : Int32} {x7 : Int32} {l9 : Int64} {x11 : Int32} {x12 : Int32} {x13 : Int32} {a19 : Nat} {a20 : Nat} {x23 : Int32} {a24 : Nat} {x25 : Int32} {w : MW} (h0 : mTg w a1 = 9) : mX (d + 1) 169 760 [.ref a0, .ref a1, mJ, .ref a3, .int x4, .int x5, .int x6, .int x7, mJ, .long l9, mJ, .int x11, .int x12, .int x13, mJ, mJ, mJ, mJ, mJ, .ref a19, .ref a20, mJ, mJ, .int x23, .ref a24, .int x25, mJ, mJ, mJ, mJ, mJ, mJ] [] w = mThen (mK d 113 [.ref a1, .int x25] w) (fun v w9 => mX (d + 1) 169 770 [.ref a0, .ref a1, mJ, .ref a3, .int x4, .int x5, .int x6, .int x7, mJ, .long l9, mJ, .int x11, .int x12, .int x13, mJ, mJ, mJ, mJ, mJ, .ref a19, .ref a20, mJ, mJ, .int x23, .ref a24, .int x25, mJ, mJ, mJ, mJ, mJ, mJ] (v.toList ++ [.int x25, .ref a24]) w9) := by
  refine Eq.trans (X_st f_169_760 rfl rfl) ?_
  refine Eq.trans (X_st f_169_762 rfl rfl) ?_
  refine Eq.trans (X_st f_169_764 rfl rfl) ?_
  refine Eq.trans (X_st f_169_765 rfl rfl) ?_
  refine Eq.trans (X_call f_169_767 (by decide) rfl rfl rfl rfl rfl rfl (Nat.le_of_ble_eq_true rfl) (Nat.le_of_ble_eq_true rfl) (decide_eq_true h0) (Nat.le_of_ble_eq_true rfl)) ?_
  exact mThen_eq fun v w9 => mX_maskK lm_169_770 rfl
theorem b_169_770 {d : Nat} {a0 : Nat} {a1 : Nat} {a3 : Nat} {x4 : Int32} {x5 : Int32} {x6 : Int32} {x7 : Int32} {l9 : Int64} {x11 : Int32} {x12 : Int32} {x13 : Int32} {a19 : Nat} {a20 : Nat} {x23 : Int32} {a24 : Nat} {x25 : Int32} {y0 : Int32} {y1 : Nat} {b2 : Nat} {w : MW} (h0 : mTg w b2 = 50) (h1 : mE ≤ b2) (h2 : y1 < 2147483648) (h3 : y1 < mLn w b2) : mX d 169 770 [.ref a0, .ref a1, mJ, .ref a3, .int x4, .int x5, .int x6, .int x7, mJ, .long l9, mJ, .int x11, .int x12, .int x13, mJ, mJ, mJ, mJ, mJ, .ref a19, .ref a20, mJ, mJ, .int x23, .ref a24, .int x25, mJ, mJ, mJ, mJ, mJ, mJ] [.int y0, .int (nI y1), .ref b2] w = mX d 169 771 [.ref a0, .ref a1, mJ, .ref a3, .int x4, .int x5, .int x6, .int x7, mJ, .long l9, mJ, .int x11, .int x12, .int x13, mJ, mJ, mJ, mJ, mJ, .ref a19, .ref a20, mJ, mJ, .int x23, .ref a24, .int x25, mJ, mJ, mJ, mJ, mJ, mJ] [] (wI w b2 y1 y0) := by
  refine Eq.trans (X_iast f_169_770 h0 h1 (jnn h2) (jcl h2) h3) ?_
  exact mX_maskK lm_169_771 rfl
theorem b_169_771 {d : Nat} {a0 : Nat} {a1 : Nat} {a3 : Nat} {x4 : Int32} {x5 : Int32} {x6 : Int32} {x7 : Int32} {l9 : Int64} {x11 : Int32} {x12 : Int32} {x13 : Int32} {a19 : Nat} {a20 : Nat} {x23 : Int32} {a24 : Nat} {x25 : Nat} {w : MW} (h0 : mTg w a24 = 50) (h1 : x25 < 2147483648) (h2 : x25 < mLn w a24) : mX d 169 771 [.ref a0, .ref a1, mJ, .ref a3, .int x4, .int x5, .int x6, .int x7, mJ, .long l9, mJ, .int x11, .int x12, .int x13, mJ, mJ, mJ, mJ, mJ, .ref a19, .ref a20, mJ, mJ, .int x23, .ref a24, .int (nI x25), mJ, mJ, mJ, mJ, mJ, mJ] [] w = (if ¬ (mI w a24 x25) = nI 0 then mX d 169 783 [.ref a0, .ref a1, mJ, .ref a3, .int x4, .int x5, .int x6, .int x7, mJ, .long l9, mJ, .int x11, .int x12, .int x13, mJ, mJ, mJ, mJ, mJ, .ref a19, .ref a20, mJ, mJ, .int x23, .ref a24, .int (nI x25), mJ, mJ, mJ, mJ, mJ, mJ] [] w else mX d 169 779 [.ref a0, .ref a1, mJ, .ref a3, .int x4, .int x5, .int x6, .int x7, mJ, .long l9, mJ, .int x11, .int x12, .int x13, mJ, mJ, mJ, mJ, mJ, .ref a19, .ref a20, mJ, mJ, .int x23, .ref a24, .int (nI x25), mJ, mJ, mJ, mJ, mJ, mJ] [] w) := by
  refine Eq.trans (X_st f_169_771 rfl rfl) ?_
  refine Eq.trans (X_st f_169_773 rfl rfl) ?_
  refine Eq.trans (X_iald f_169_775 h0 (jnn h1) (jcl h1) h2) ?_
  refine Eq.trans (X_br f_169_776 rfl rfl) ?_
  exact mIte_eq (mX_maskK lm_169_783 rfl) (mX_maskK lm_169_779 rfl)
theorem b_169_779 {d : Nat} {a0 : Nat} {a1 : Nat} {a3 : Nat} {x4 : Int32} {x5 : Int32} {x6 : Int32} {x7 : Int32} {l9 : Int64} {x11 : Int32} {x12 : Int32} {x13 : Int32} {a19 : Nat} {a20 : Nat} {x23 : Int32} {a24 : Nat} {x25 : Int32} {w : MW} : mX d 169 779 [.ref a0, .ref a1, mJ, .ref a3, .int x4, .int x5, .int x6, .int x7, mJ, .long l9, mJ, .int x11, .int x12, .int x13, mJ, mJ, mJ, mJ, mJ, .ref a19, .ref a20, mJ, mJ, .int x23, .ref a24, .int x25, mJ, mJ, mJ, mJ, mJ, mJ] [] w = mX d 169 784 [.ref a0, .ref a1, mJ, .ref a3, .int x4, .int x5, .int x6, .int x7, mJ, .long l9, mJ, .int x11, .int x12, .int x13, mJ, mJ, mJ, mJ, mJ, .ref a19, .ref a20, mJ, mJ, .int x23, .ref a24, .int x25, mJ, mJ, mJ, mJ, mJ, mJ] [.int (nI 1)] w := by
  refine Eq.trans (X_iconst f_169_779 kc_i_1) ?_
  refine Eq.trans (X_st f_169_780 rfl rfl) ?_
  exact mX_maskK lm_169_784 rfl
theorem b_169_783 {d : Nat} {a0 : Nat} {a1 : Nat} {a3 : Nat} {x4 : Int32} {x5 : Int32} {x6 : Int32} {x7 : Int32} {l9 : Int64} {x11 : Int32} {x12 : Int32} {x13 : Int32} {a19 : Nat} {a20 : Nat} {x23 : Int32} {a24 : Nat} {x25 : Int32} {w : MW} : mX d 169 783 [.ref a0, .ref a1, mJ, .ref a3, .int x4, .int x5, .int x6, .int x7, mJ, .long l9, mJ, .int x11, .int x12, .int x13, mJ, mJ, mJ, mJ, mJ, .ref a19, .ref a20, mJ, mJ, .int x23, .ref a24, .int x25, mJ, mJ, mJ, mJ, mJ, mJ] [] w = mX d 169 784 [.ref a0, .ref a1, mJ, .ref a3, .int x4, .int x5, .int x6, .int x7, mJ, .long l9, mJ, .int x11, .int x12, .int x13, mJ, mJ, mJ, mJ, mJ, .ref a19, .ref a20, mJ, mJ, .int x23, .ref a24, .int x25, mJ, mJ, mJ, mJ, mJ, mJ] [.int (nI 0)] w := by
  refine Eq.trans (X_iconst f_169_783 kc_i_0) ?_
  exact mX_maskK lm_169_784 rfl
theorem b_169_784 {d : Nat} {a0 : Nat} {a1 : Nat} {a3 : Nat} {x4 : Int32} {x5 : Int32} {x6 : Int32} {x7 : Int32} {l9 : Int64} {x11 : Int32} {x12 : Int32} {x13 : Int32} {a19 : Nat} {a20 : Nat} {x23 : Int32} {a24 : Nat} {x25 : Int32} {y0 : Int32} {w : MW} (h0 : mTg w a1 = 9) : mX (d + 1) 169 784 [.ref a0, .ref a1, mJ, .ref a3, .int x4, .int x5, .int x6, .int x7, mJ, .long l9, mJ, .int x11, .int x12, .int x13, mJ, mJ, mJ, mJ, mJ, .ref a19, .ref a20, mJ, mJ, .int x23, .ref a24, .int x25, mJ, mJ, mJ, mJ, mJ, mJ] [.int y0] w = mThen (mK d 103 [.ref a1, .int x25, .int (nI 0)] w) (fun v w9 => mX (d + 1) 169 791 [.ref a0, .ref a1, mJ, .ref a3, .int x4, .int x5, .int x6, .int x7, mJ, .long l9, mJ, .int x11, .int x12, .int x13, mJ, mJ, mJ, mJ, mJ, .ref a19, .ref a20, mJ, mJ, .int x23, .ref a24, .int x25, mJ, mJ, mJ, mJ, mJ, mJ] (v.toList ++ [.int y0]) w9) := by
  refine Eq.trans (X_st f_169_784 rfl rfl) ?_
  refine Eq.trans (X_st f_169_785 rfl rfl) ?_
  refine Eq.trans (X_iconst f_169_787 kc_i_0) ?_
  refine Eq.trans (X_call f_169_788 (by decide) rfl rfl rfl rfl rfl rfl (Nat.le_of_ble_eq_true rfl) (Nat.le_of_ble_eq_true rfl) (decide_eq_true h0) (Nat.le_of_ble_eq_true rfl)) ?_
  exact mThen_eq fun v w9 => mX_maskK lm_169_791 rfl
theorem b_169_791 {d : Nat} {a0 : Nat} {a1 : Nat} {a3 : Nat} {x4 : Int32} {x5 : Int32} {x6 : Int32} {x7 : Int32} {l9 : Int64} {x11 : Int32} {x12 : Int32} {x13 : Int32} {a19 : Nat} {a20 : Nat} {x23 : Int32} {a24 : Nat} {x25 : Int32} {y0 : Int32} {y1 : Int32} {w : MW} : mX d 169 791 [.ref a0, .ref a1, mJ, .ref a3, .int x4, .int x5, .int x6, .int x7, mJ, .long l9, mJ, .int x11, .int x12, .int x13, mJ, mJ, mJ, mJ, mJ, .ref a19, .ref a20, mJ, mJ, .int x23, .ref a24, .int x25, mJ, mJ, mJ, mJ, mJ, mJ] [.int y0, .int y1] w = (if ¬ y0 = nI 0 then mX d 169 798 [.ref a0, .ref a1, mJ, .ref a3, .int x4, .int x5, .int x6, .int x7, mJ, .long l9, mJ, .int x11, .int x12, .int x13, mJ, mJ, mJ, mJ, mJ, .ref a19, .ref a20, mJ, mJ, .int x23, .ref a24, .int x25, mJ, mJ, mJ, mJ, mJ, mJ] [.int y1] w else mX d 169 794 [.ref a0, .ref a1, mJ, .ref a3, .int x4, .int x5, .int x6, .int x7, mJ, .long l9, mJ, .int x11, .int x12, .int x13, mJ, mJ, mJ, mJ, mJ, .ref a19, .ref a20, mJ, mJ, .int x23, .ref a24, .int x25, mJ, mJ, mJ, mJ, mJ, mJ] [.int y1] w) := by
  refine Eq.trans (X_br f_169_791 rfl rfl) ?_
  exact mIte_eq (mX_maskK lm_169_798 rfl) (mX_maskK lm_169_794 rfl)
theorem b_169_794 {d : Nat} {a0 : Nat} {a1 : Nat} {a3 : Nat} {x4 : Int32} {x5 : Int32} {x6 : Int32} {x7 : Int32} {l9 : Int64} {x11 : Int32} {x12 : Int32} {x13 : Int32} {a19 : Nat} {a20 : Nat} {x23 : Int32} {a24 : Nat} {x25 : Int32} {y0 : Int32} {w : MW} : mX d 169 794 [.ref a0, .ref a1, mJ, .ref a3, .int x4, .int x5, .int x6, .int x7, mJ, .long l9, mJ, .int x11, .int x12, .int x13, mJ, mJ, mJ, mJ, mJ, .ref a19, .ref a20, mJ, mJ, .int x23, .ref a24, .int x25, mJ, mJ, mJ, mJ, mJ, mJ] [.int y0] w = mX d 169 799 [.ref a0, .ref a1, mJ, .ref a3, .int x4, .int x5, .int x6, .int x7, mJ, .long l9, mJ, .int x11, .int x12, .int x13, mJ, mJ, mJ, mJ, mJ, .ref a19, .ref a20, mJ, mJ, .int x23, .ref a24, .int x25, mJ, mJ, mJ, mJ, mJ, mJ] [.int (nI 1), .int y0] w := by
  refine Eq.trans (X_iconst f_169_794 kc_i_1) ?_
  refine Eq.trans (X_st f_169_795 rfl rfl) ?_
  exact mX_maskK lm_169_799 rfl
theorem b_169_798 {d : Nat} {a0 : Nat} {a1 : Nat} {a3 : Nat} {x4 : Int32} {x5 : Int32} {x6 : Int32} {x7 : Int32} {l9 : Int64} {x11 : Int32} {x12 : Int32} {x13 : Int32} {a19 : Nat} {a20 : Nat} {x23 : Int32} {a24 : Nat} {x25 : Int32} {y0 : Int32} {w : MW} : mX d 169 798 [.ref a0, .ref a1, mJ, .ref a3, .int x4, .int x5, .int x6, .int x7, mJ, .long l9, mJ, .int x11, .int x12, .int x13, mJ, mJ, mJ, mJ, mJ, .ref a19, .ref a20, mJ, mJ, .int x23, .ref a24, .int x25, mJ, mJ, mJ, mJ, mJ, mJ] [.int y0] w = mX d 169 799 [.ref a0, .ref a1, mJ, .ref a3, .int x4, .int x5, .int x6, .int x7, mJ, .long l9, mJ, .int x11, .int x12, .int x13, mJ, mJ, mJ, mJ, mJ, .ref a19, .ref a20, mJ, mJ, .int x23, .ref a24, .int x25, mJ, mJ, mJ, mJ, mJ, mJ] [.int (nI 0), .int y0] w := by
  refine Eq.trans (X_iconst f_169_798 kc_i_0) ?_
  exact mX_maskK lm_169_799 rfl
theorem b_169_799 {d : Nat} {a0 : Nat} {a1 : Nat} {a3 : Nat} {x4 : Int32} {x5 : Int32} {x6 : Int32} {x7 : Int32} {l9 : Int64} {x11 : Int32} {x12 : Int32} {x13 : Int32} {a19 : Nat} {a20 : Nat} {x23 : Int32} {a24 : Nat} {x25 : Int32} {y0 : Int32} {y1 : Int32} {w : MW} : mX d 169 799 [.ref a0, .ref a1, mJ, .ref a3, .int x4, .int x5, .int x6, .int x7, mJ, .long l9, mJ, .int x11, .int x12, .int x13, mJ, mJ, mJ, mJ, mJ, .ref a19, .ref a20, mJ, mJ, .int x23, .ref a24, .int x25, mJ, mJ, mJ, mJ, mJ, mJ] [.int y0, .int y1] w = (if y1 = y0 then mX d 169 804 [.ref a0, .ref a1, mJ, .ref a3, .int x4, .int x5, .int x6, .int x7, mJ, .long l9, mJ, .int x11, .int x12, .int x13, mJ, mJ, mJ, mJ, mJ, .ref a19, .ref a20, mJ, mJ, .int x23, .ref a24, .int x25, mJ, mJ, mJ, mJ, mJ, mJ] [] w else mX d 169 802 [mJ, mJ, mJ, mJ, mJ, mJ, mJ, mJ, mJ, mJ, mJ, mJ, mJ, mJ, mJ, mJ, mJ, mJ, mJ, mJ, mJ, mJ, mJ, mJ, mJ, mJ, mJ, mJ, mJ, mJ, mJ, mJ] [] w) := by
  refine Eq.trans (X_br f_169_799 rfl rfl) ?_
  exact mIte_eq (mX_maskK lm_169_804 rfl) (mX_maskK lm_169_802 rfl)
theorem b_169_802 {d : Nat} {w : MW} : mX d 169 802 [mJ, mJ, mJ, mJ, mJ, mJ, mJ, mJ, mJ, mJ, mJ, mJ, mJ, mJ, mJ, mJ, mJ, mJ, mJ, mJ, mJ, mJ, mJ, mJ, mJ, mJ, mJ, mJ, mJ, mJ, mJ, mJ] [] w = some (.inl (some (.int (nI 0))), w) := by
  refine Eq.trans (X_iconst f_169_802 kc_i_0) ?_
  exact X_ireturn f_169_803 rfl
theorem b_169_804 {d : Nat} {a0 : Nat} {a1 : Nat} {a3 : Nat} {x4 : Int32} {x5 : Int32} {x6 : Int32} {x7 : Int32} {l9 : Int64} {x11 : Int32} {x12 : Int32} {x13 : Int32} {a19 : Nat} {a20 : Nat} {x23 : Int32} {a24 : Nat} {x25 : Int32} {w : MW} : mX d 169 804 [.ref a0, .ref a1, mJ, .ref a3, .int x4, .int x5, .int x6, .int x7, mJ, .long l9, mJ, .int x11, .int x12, .int x13, mJ, mJ, mJ, mJ, mJ, .ref a19, .ref a20, mJ, mJ, .int x23, .ref a24, .int x25, mJ, mJ, mJ, mJ, mJ, mJ] [] w = mX d 169 753 [.ref a0, .ref a1, mJ, .ref a3, .int x4, .int x5, .int x6, .int x7, mJ, .long l9, mJ, .int x11, .int x12, .int x13, mJ, mJ, mJ, mJ, mJ, .ref a19, .ref a20, mJ, mJ, .int x23, .ref a24, .int (x25 + (nI 1)), mJ, mJ, mJ, mJ, mJ, mJ] [] w := by
  refine Eq.trans (X_iinc f_169_804 kc_i_1 rfl rfl) ?_
  refine Eq.trans (X_st f_169_807 rfl rfl) ?_
  exact mX_maskK lm_169_753 rfl
theorem b_169_810 {d : Nat} {a0 : Nat} {a1 : Nat} {a3 : Nat} {x4 : Int32} {x5 : Int32} {x6 : Int32} {x7 : Int32} {l9 : Int64} {x11 : Int32} {x12 : Int32} {x13 : Int32} {a19 : Nat} {a20 : Nat} {x23 : Int32} {a24 : Nat} {w : MW} (h0 : mTg w a1 = 9) : mX (d + 1) 169 810 [.ref a0, .ref a1, mJ, .ref a3, .int x4, .int x5, .int x6, .int x7, mJ, .long l9, mJ, .int x11, .int x12, .int x13, mJ, mJ, mJ, mJ, mJ, .ref a19, .ref a20, mJ, mJ, .int x23, .ref a24, mJ, mJ, mJ, mJ, mJ, mJ, mJ] [] w = mThen (mK d 112 [.ref a1, .int (nI 1), .int (nI 11)] w) (fun v w9 => mX (d + 1) 169 817 [.ref a0, .ref a1, mJ, .ref a3, .int x4, .int x5, .int x6, .int x7, mJ, .long l9, mJ, .int x11, .int x12, .int x13, mJ, mJ, mJ, mJ, mJ, .ref a19, .ref a20, mJ, mJ, .int x23, .ref a24, mJ, mJ, mJ, mJ, mJ, mJ, mJ] (v.toList ++ []) w9) := by
  refine Eq.trans (X_st f_169_810 rfl rfl) ?_
  refine Eq.trans (X_iconst f_169_811 kc_i_1) ?_
  refine Eq.trans (X_bipush f_169_812 kc_b_11) ?_
  refine Eq.trans (X_call f_169_814 (by decide) rfl rfl rfl rfl rfl rfl (Nat.le_of_ble_eq_true rfl) (Nat.le_of_ble_eq_true rfl) (decide_eq_true h0) (Nat.le_of_ble_eq_true rfl)) ?_
  exact mThen_eq fun v w9 => mX_maskK lm_169_817 rfl
theorem b_169_817 {d : Nat} {a0 : Nat} {a1 : Nat} {a3 : Nat} {x4 : Int32} {x5 : Int32} {x6 : Int32} {x7 : Int32} {l9 : Int64} {x11 : Int32} {x12 : Int32} {x13 : Int32} {a19 : Nat} {a20 : Nat} {x23 : Int32} {a24 : Nat} {y0 : Int32} {w : MW} (h0 : mTg w a1 = 9) : mX (d + 1) 169 817 [.ref a0, .ref a1, mJ, .ref a3, .int x4, .int x5, .int x6, .int x7, mJ, .long l9, mJ, .int x11, .int x12, .int x13, mJ, mJ, mJ, mJ, mJ, .ref a19, .ref a20, mJ, mJ, .int x23, .ref a24, mJ, mJ, mJ, mJ, mJ, mJ, mJ] [.int y0] w = mThen (mK d 117 [.ref a1] w) (fun v w9 => mX (d + 1) 169 823 [.ref a0, .ref a1, mJ, .ref a3, .int x4, .int x5, .int x6, .int x7, mJ, .long l9, mJ, .int x11, .int x12, .int x13, mJ, mJ, mJ, mJ, mJ, .ref a19, .ref a20, mJ, mJ, .int x23, .ref a24, .int y0, mJ, mJ, mJ, mJ, mJ, mJ] (v.toList ++ []) w9) := by
  refine Eq.trans (X_istore (L' := [.ref a0, .ref a1, mJ, .ref a3, .int x4, .int x5, .int x6, .int x7, mJ, .long l9, mJ, .int x11, .int x12, .int x13, mJ, mJ, mJ, mJ, mJ, .ref a19, .ref a20, mJ, mJ, .int x23, .ref a24, .int y0, mJ, mJ, mJ, mJ, mJ, mJ]) f_169_817 (Nat.le_of_ble_eq_true rfl) rfl) ?_
  refine Eq.trans (X_st f_169_819 rfl rfl) ?_
  refine Eq.trans (X_call f_169_820 (by decide) rfl rfl rfl rfl rfl rfl (Nat.le_of_ble_eq_true rfl) (Nat.le_of_ble_eq_true rfl) (decide_eq_true h0) (Nat.le_of_ble_eq_true rfl)) ?_
  exact mThen_eq fun v w9 => mX_maskK lm_169_823 rfl
theorem b_169_823 {d : Nat} {a0 : Nat} {a1 : Nat} {a3 : Nat} {x4 : Int32} {x5 : Int32} {x6 : Int32} {x7 : Int32} {l9 : Int64} {x11 : Int32} {x12 : Int32} {x13 : Int32} {a19 : Nat} {a20 : Nat} {x23 : Int32} {a24 : Nat} {x25 : Int32} {m0 : Int64} {w : MW} : mX d 169 823 [.ref a0, .ref a1, mJ, .ref a3, .int x4, .int x5, .int x6, .int x7, mJ, .long l9, mJ, .int x11, .int x12, .int x13, mJ, mJ, mJ, mJ, mJ, .ref a19, .ref a20, mJ, mJ, .int x23, .ref a24, .int x25, mJ, mJ, mJ, mJ, mJ, mJ] [.long m0] w = (if (lg_cmp m0 l9) = nI 0 then mX d 169 831 [.ref a0, .ref a1, mJ, .ref a3, .int x4, .int x5, .int x6, .int x7, mJ, .long l9, mJ, .int x11, .int x12, .int x13, mJ, mJ, mJ, mJ, mJ, .ref a19, .ref a20, mJ, mJ, .int x23, .ref a24, .int x25, mJ, mJ, mJ, mJ, mJ, mJ] [] w else mX d 169 829 [mJ, mJ, mJ, mJ, mJ, mJ, mJ, mJ, mJ, mJ, mJ, mJ, mJ, mJ, mJ, mJ, mJ, mJ, mJ, mJ, mJ, mJ, mJ, mJ, mJ, mJ, mJ, mJ, mJ, mJ, mJ, mJ] [] w) := by
  refine Eq.trans (X_st f_169_823 rfl rfl) ?_
  refine Eq.trans (X_st f_169_825 rfl rfl) ?_
  refine Eq.trans (X_br f_169_826 rfl rfl) ?_
  exact mIte_eq (mX_maskK lm_169_831 rfl) (mX_maskK lm_169_829 rfl)
theorem b_169_829 {d : Nat} {w : MW} : mX d 169 829 [mJ, mJ, mJ, mJ, mJ, mJ, mJ, mJ, mJ, mJ, mJ, mJ, mJ, mJ, mJ, mJ, mJ, mJ, mJ, mJ, mJ, mJ, mJ, mJ, mJ, mJ, mJ, mJ, mJ, mJ, mJ, mJ] [] w = some (.inl (some (.int (nI 0))), w) := by
  refine Eq.trans (X_iconst f_169_829 kc_i_0) ?_
  exact X_ireturn f_169_830 rfl
theorem b_169_831 {d : Nat} {a0 : Nat} {a1 : Nat} {a3 : Nat} {x4 : Int32} {x5 : Int32} {x6 : Int32} {x7 : Int32} {l9 : Int64} {x11 : Int32} {x12 : Int32} {x13 : Int32} {a19 : Nat} {a20 : Nat} {x23 : Int32} {a24 : Nat} {x25 : Int32} {w : MW} : mX d 169 831 [.ref a0, .ref a1, mJ, .ref a3, .int x4, .int x5, .int x6, .int x7, mJ, .long l9, mJ, .int x11, .int x12, .int x13, mJ, mJ, mJ, mJ, mJ, .ref a19, .ref a20, mJ, mJ, .int x23, .ref a24, .int x25, mJ, mJ, mJ, mJ, mJ, mJ] [] w = (if nI 0 ≤ x11 then mX d 169 840 [.ref a0, .ref a1, mJ, .ref a3, .int x4, .int x5, .int x6, .int x7, mJ, .long l9, mJ, .int x11, .int x12, .int x13, mJ, mJ, mJ, mJ, mJ, .ref a19, .ref a20, mJ, mJ, .int x23, .ref a24, .int x25, mJ, mJ, mJ, mJ, mJ, mJ] [] w else mX d 169 836 [.ref a0, .ref a1, mJ, .ref a3, .int x4, .int x5, .int x6, .int x7, mJ, .long l9, mJ, .int x11, .int x12, .int x13, mJ, mJ, mJ, mJ, mJ, .ref a19, .ref a20, mJ, mJ, .int x23, .ref a24, .int x25, mJ, mJ, mJ, mJ, mJ, mJ] [] w) := by
  refine Eq.trans (X_st f_169_831 rfl rfl) ?_
  refine Eq.trans (X_br f_169_833 rfl rfl) ?_
  exact mIte_eq (mX_maskK lm_169_840 rfl) (mX_maskK lm_169_836 rfl)
theorem b_169_836 {d : Nat} {a0 : Nat} {a1 : Nat} {a3 : Nat} {x4 : Int32} {x5 : Int32} {x6 : Int32} {x7 : Int32} {l9 : Int64} {x11 : Int32} {x12 : Int32} {x13 : Int32} {a19 : Nat} {a20 : Nat} {x23 : Int32} {a24 : Nat} {x25 : Int32} {w : MW} : mX d 169 836 [.ref a0, .ref a1, mJ, .ref a3, .int x4, .int x5, .int x6, .int x7, mJ, .long l9, mJ, .int x11, .int x12, .int x13, mJ, mJ, mJ, mJ, mJ, .ref a19, .ref a20, mJ, mJ, .int x23, .ref a24, .int x25, mJ, mJ, mJ, mJ, mJ, mJ] [] w = mX d 169 847 [.ref a0, .ref a1, mJ, .ref a3, .int x4, .int x5, .int x6, .int x7, mJ, .long l9, mJ, .int x11, .int x12, .int x13, mJ, mJ, mJ, mJ, mJ, .ref a19, .ref a20, mJ, mJ, .int x23, .ref a24, .int x25, mJ, mJ, mJ, mJ, mJ, mJ] [.int (nI 0)] w := by
  refine Eq.trans (X_iconst f_169_836 kc_i_0) ?_
  refine Eq.trans (X_st f_169_837 rfl rfl) ?_
  exact mX_maskK lm_169_847 rfl
theorem b_169_840 {d : Nat} {a0 : Nat} {a1 : Nat} {a3 : Nat} {x4 : Int32} {x5 : Int32} {x6 : Int32} {x7 : Int32} {l9 : Int64} {x11 : Int32} {x12 : Int32} {x13 : Int32} {a19 : Nat} {a20 : Nat} {x23 : Int32} {a24 : Nat} {x25 : Int32} {w : MW} (h0 : mTg w a1 = 9) : mX (d + 1) 169 840 [.ref a0, .ref a1, mJ, .ref a3, .int x4, .int x5, .int x6, .int x7, mJ, .long l9, mJ, .int x11, .int x12, .int x13, mJ, mJ, mJ, mJ, mJ, .ref a19, .ref a20, mJ, mJ, .int x23, .ref a24, .int x25, mJ, mJ, mJ, mJ, mJ, mJ] [] w = mThen (mK d 105 [.ref a1, .int x12, .int (nI 0)] w) (fun v w9 => mX (d + 1) 169 847 [.ref a0, .ref a1, mJ, .ref a3, .int x4, .int x5, .int x6, .int x7, mJ, .long l9, mJ, .int x11, .int x12, .int x13, mJ, mJ, mJ, mJ, mJ, .ref a19, .ref a20, mJ, mJ, .int x23, .ref a24, .int x25, mJ, mJ, mJ, mJ, mJ, mJ] (v.toList ++ []) w9) := by
  refine Eq.trans (X_st f_169_840 rfl rfl) ?_
  refine Eq.trans (X_st f_169_841 rfl rfl) ?_
  refine Eq.trans (X_iconst f_169_843 kc_i_0) ?_
  refine Eq.trans (X_call f_169_844 (by decide) rfl rfl rfl rfl rfl rfl (Nat.le_of_ble_eq_true rfl) (Nat.le_of_ble_eq_true rfl) (decide_eq_true h0) (Nat.le_of_ble_eq_true rfl)) ?_
  exact mThen_eq fun v w9 => mX_maskK lm_169_847 rfl
theorem b_169_847 {d : Nat} {a0 : Nat} {a1 : Nat} {a3 : Nat} {x4 : Int32} {x5 : Int32} {x6 : Int32} {x7 : Int32} {l9 : Int64} {x11 : Int32} {x12 : Int32} {x13 : Int32} {a19 : Nat} {a20 : Nat} {x23 : Int32} {a24 : Nat} {x25 : Int32} {y0 : Int32} {w : MW} (h0 : mTg w a1 = 9) : mX (d + 1) 169 847 [.ref a0, .ref a1, mJ, .ref a3, .int x4, .int x5, .int x6, .int x7, mJ, .long l9, mJ, .int x11, .int x12, .int x13, mJ, mJ, mJ, mJ, mJ, .ref a19, .ref a20, mJ, mJ, .int x23, .ref a24, .int x25, mJ, mJ, mJ, mJ, mJ, mJ] [.int y0] w = mThen (mK d 111 [.ref a1, .int (nI 1)] w) (fun v w9 => mX (d + 1) 169 854 [.ref a0, .ref a1, mJ, .ref a3, .int x4, .int x5, .int x6, .int x7, mJ, .long l9, mJ, .int x11, .int x12, .int x13, mJ, mJ, mJ, mJ, mJ, .ref a19, .ref a20, mJ, mJ, .int x23, .ref a24, .int x25, .int y0, mJ, mJ, mJ, mJ, mJ] (v.toList ++ []) w9) := by
  refine Eq.trans (X_istore (L' := [.ref a0, .ref a1, mJ, .ref a3, .int x4, .int x5, .int x6, .int x7, mJ, .long l9, mJ, .int x11, .int x12, .int x13, mJ, mJ, mJ, mJ, mJ, .ref a19, .ref a20, mJ, mJ, .int x23, .ref a24, .int x25, .int y0, mJ, mJ, mJ, mJ, mJ]) f_169_847 (Nat.le_of_ble_eq_true rfl) rfl) ?_
  refine Eq.trans (X_st f_169_849 rfl rfl) ?_
  refine Eq.trans (X_iconst f_169_850 kc_i_1) ?_
  refine Eq.trans (X_call f_169_851 (by decide) rfl rfl rfl rfl rfl rfl (Nat.le_of_ble_eq_true rfl) (Nat.le_of_ble_eq_true rfl) (decide_eq_true h0) (Nat.le_of_ble_eq_true rfl)) ?_
  exact mThen_eq fun v w9 => mX_maskK lm_169_854 rfl
theorem b_169_854 {d : Nat} {a0 : Nat} {a1 : Nat} {a3 : Nat} {x4 : Int32} {x5 : Int32} {x6 : Int32} {x7 : Int32} {l9 : Int64} {x11 : Int32} {x12 : Int32} {x13 : Int32} {a19 : Nat} {a20 : Nat} {x23 : Int32} {a24 : Nat} {x25 : Int32} {x26 : Int32} {y0 : Int32} {w : MW} (h0 : mTg w a3 = 10) : mX (d + 1) 169 854 [.ref a0, .ref a1, mJ, .ref a3, .int x4, .int x5, .int x6, .int x7, mJ, .long l9, mJ, .int x11, .int x12, .int x13, mJ, mJ, mJ, mJ, mJ, .ref a19, .ref a20, mJ, mJ, .int x23, .ref a24, .int x25, .int x26, mJ, mJ, mJ, mJ, mJ] [.int y0] w = mThen (mK d 145 [.ref a3, .int (nI 1)] w) (fun v w9 => mX (d + 1) 169 861 [.ref a0, .ref a1, mJ, .ref a3, .int x4, .int x5, .int x6, .int x7, mJ, .long l9, mJ, .int x11, .int x12, .int x13, mJ, mJ, mJ, mJ, mJ, .ref a19, .ref a20, mJ, mJ, .int x23, .ref a24, .int x25, .int x26, .int y0, mJ, mJ, mJ, mJ] (v.toList ++ []) w9) := by
  refine Eq.trans (X_istore (L' := [.ref a0, .ref a1, mJ, .ref a3, .int x4, .int x5, .int x6, .int x7, mJ, .long l9, mJ, .int x11, .int x12, .int x13, mJ, mJ, mJ, mJ, mJ, .ref a19, .ref a20, mJ, mJ, .int x23, .ref a24, .int x25, .int x26, .int y0, mJ, mJ, mJ, mJ]) f_169_854 (Nat.le_of_ble_eq_true rfl) rfl) ?_
  refine Eq.trans (X_st f_169_856 rfl rfl) ?_
  refine Eq.trans (X_iconst f_169_857 kc_i_1) ?_
  refine Eq.trans (X_call f_169_858 (by decide) rfl rfl rfl rfl rfl rfl (Nat.le_of_ble_eq_true rfl) (Nat.le_of_ble_eq_true rfl) (decide_eq_true h0) (Nat.le_of_ble_eq_true rfl)) ?_
  exact mThen_eq fun v w9 => mX_maskK lm_169_861 rfl
theorem b_169_861 {d : Nat} {a0 : Nat} {a1 : Nat} {a3 : Nat} {x4 : Int32} {x5 : Int32} {x6 : Int32} {x7 : Int32} {l9 : Int64} {x11 : Int32} {x12 : Int32} {x13 : Int32} {a19 : Nat} {a20 : Nat} {x23 : Int32} {a24 : Nat} {x25 : Int32} {x26 : Int32} {x27 : Int32} {y0 : Int32} {w : MW} : mX d 169 861 [.ref a0, .ref a1, mJ, .ref a3, .int x4, .int x5, .int x6, .int x7, mJ, .long l9, mJ, .int x11, .int x12, .int x13, mJ, mJ, mJ, mJ, mJ, .ref a19, .ref a20, mJ, mJ, .int x23, .ref a24, .int x25, .int x26, .int x27, mJ, mJ, mJ, mJ] [.int y0] w = (if ¬ y0 = x27 then mX d 169 907 [mJ, mJ, mJ, mJ, mJ, mJ, mJ, mJ, mJ, mJ, mJ, mJ, mJ, mJ, mJ, mJ, mJ, mJ, mJ, mJ, mJ, mJ, mJ, mJ, mJ, mJ, mJ, mJ, mJ, mJ, mJ, mJ] [] w else mX d 169 866 [.ref a0, .ref a1, mJ, .ref a3, .int x4, .int x5, .int x6, .int x7, mJ, .long l9, mJ, .int x11, .int x12, .int x13, mJ, mJ, mJ, mJ, mJ, .ref a19, .ref a20, mJ, mJ, .int x23, .ref a24, .int x25, .int x26, .int x27, mJ, mJ, mJ, mJ] [] w) := by
  refine Eq.trans (X_st f_169_861 rfl rfl) ?_
  refine Eq.trans (X_br f_169_863 rfl rfl) ?_
  exact mIte_eq (mX_maskK lm_169_907 rfl) (mX_maskK lm_169_866 rfl)
theorem b_169_866 {d : Nat} {a0 : Nat} {a1 : Nat} {a3 : Nat} {x4 : Int32} {x5 : Int32} {x6 : Int32} {x7 : Int32} {l9 : Int64} {x11 : Int32} {x12 : Int32} {x13 : Int32} {a19 : Nat} {a20 : Nat} {x23 : Int32} {a24 : Nat} {x25 : Int32} {x26 : Int32} {x27 : Int32} {w : MW} : mX d 169 866 [.ref a0, .ref a1, mJ, .ref a3, .int x4, .int x5, .int x6, .int x7, mJ, .long l9, mJ, .int x11, .int x12, .int x13, mJ, mJ, mJ, mJ, mJ, .ref a19, .ref a20, mJ, mJ, .int x23, .ref a24, .int x25, .int x26, .int x27, mJ, mJ, mJ, mJ] [] w = (if nI 0 ≤ x11 then mX d 169 877 [.ref a0, .ref a1, mJ, .ref a3, .int x4, .int x5, .int x6, .int x7, mJ, .long l9, mJ, .int x11, .int x12, .int x13, mJ, mJ, mJ, mJ, mJ, .ref a19, .ref a20, mJ, mJ, .int x23, .ref a24, .int x25, .int x26, .int x27, mJ, mJ, mJ, mJ] [.int x27] w else mX d 169 873 [.ref a0, .ref a1, mJ, .ref a3, .int x4, .int x5, .int x6, .int x7, mJ, .long l9, mJ, .int x11, .int x12, .int x13, mJ, mJ, mJ, mJ, mJ, .ref a19, .ref a20, mJ, mJ, .int x23, .ref a24, .int x25, .int x26, .int x27, mJ, mJ, mJ, mJ] [.int x27] w) := by
  refine Eq.trans (X_st f_169_866 rfl rfl) ?_
  refine Eq.trans (X_st f_169_868 rfl rfl) ?_
  refine Eq.trans (X_br f_169_870 rfl rfl) ?_
  exact mIte_eq (mX_maskK lm_169_877 rfl) (mX_maskK lm_169_873 rfl)
theorem b_169_873 {d : Nat} {a0 : Nat} {a1 : Nat} {a3 : Nat} {x4 : Int32} {x5 : Int32} {x6 : Int32} {x7 : Int32} {l9 : Int64} {x11 : Int32} {x12 : Int32} {x13 : Int32} {a19 : Nat} {a20 : Nat} {x23 : Int32} {a24 : Nat} {x25 : Int32} {x26 : Int32} {x27 : Int32} {y0 : Int32} {w : MW} : mX d 169 873 [.ref a0, .ref a1, mJ, .ref a3, .int x4, .int x5, .int x6, .int x7, mJ, .long l9, mJ, .int x11, .int x12, .int x13, mJ, mJ, mJ, mJ, mJ, .ref a19, .ref a20, mJ, mJ, .int x23, .ref a24, .int x25, .int x26, .int x27, mJ, mJ, mJ, mJ] [.int y0] w = mX d 169 878 [.ref a0, .ref a1, mJ, .ref a3, .int x4, .int x5, .int x6, .int x7, mJ, .long l9, mJ, .int x11, .int x12, .int x13, mJ, mJ, mJ, mJ, mJ, .ref a19, .ref a20, mJ, mJ, .int x23, .ref a24, .int x25, .int x26, .int x27, mJ, mJ, mJ, mJ] [.int (nI 0), .int y0] w := by
  refine Eq.trans (X_iconst f_169_873 kc_i_0) ?_
  refine Eq.trans (X_st f_169_874 rfl rfl) ?_
  exact mX_maskK lm_169_878 rfl
theorem b_169_877 {d : Nat} {a0 : Nat} {a1 : Nat} {a3 : Nat} {x4 : Int32} {x5 : Int32} {x6 : Int32} {x7 : Int32} {l9 : Int64} {x11 : Int32} {x12 : Int32} {x13 : Int32} {a19 : Nat} {a20 : Nat} {x23 : Int32} {a24 : Nat} {x25 : Int32} {x26 : Int32} {x27 : Int32} {y0 : Int32} {w : MW} : mX d 169 877 [.ref a0, .ref a1, mJ, .ref a3, .int x4, .int x5, .int x6, .int x7, mJ, .long l9, mJ, .int x11, .int x12, .int x13, mJ, mJ, mJ, mJ, mJ, .ref a19, .ref a20, mJ, mJ, .int x23, .ref a24, .int x25, .int x26, .int x27, mJ, mJ, mJ, mJ] [.int y0] w = mX d 169 878 [.ref a0, .ref a1, mJ, .ref a3, .int x4, .int x5, .int x6, .int x7, mJ, .long l9, mJ, .int x11, .int x12, .int x13, mJ, mJ, mJ, mJ, mJ, .ref a19, .ref a20, mJ, mJ, .int x23, .ref a24, .int x25, .int x26, .int x27, mJ, mJ, mJ, mJ] [.int (nI 1), .int y0] w := by
  refine Eq.trans (X_iconst f_169_877 kc_i_1) ?_
  exact mX_maskK lm_169_878 rfl
theorem b_169_878 {d : Nat} {a0 : Nat} {a1 : Nat} {a3 : Nat} {x4 : Int32} {x5 : Int32} {x6 : Int32} {x7 : Int32} {l9 : Int64} {x11 : Int32} {x12 : Int32} {x13 : Int32} {a19 : Nat} {a20 : Nat} {x23 : Int32} {a24 : Nat} {x25 : Int32} {x26 : Int32} {x27 : Int32} {y0 : Int32} {y1 : Int32} {w : MW} : mX d 169 878 [.ref a0, .ref a1, mJ, .ref a3, .int x4, .int x5, .int x6, .int x7, mJ, .long l9, mJ, .int x11, .int x12, .int x13, mJ, mJ, mJ, mJ, mJ, .ref a19, .ref a20, mJ, mJ, .int x23, .ref a24, .int x25, .int x26, .int x27, mJ, mJ, mJ, mJ] [.int y0, .int y1] w = (if ¬ y1 = y0 then mX d 169 907 [mJ, mJ, mJ, mJ, mJ, mJ, mJ, mJ, mJ, mJ, mJ, mJ, mJ, mJ, mJ, mJ, mJ, mJ, mJ, mJ, mJ, mJ, mJ, mJ, mJ, mJ, mJ, mJ, mJ, mJ, mJ, mJ] [] w else mX d 169 881 [.ref a0, .ref a1, mJ, .ref a3, .int x4, .int x5, .int x6, .int x7, mJ, .long l9, mJ, .int x11, .int x12, .int x13, mJ, mJ, mJ, mJ, mJ, .ref a19, .ref a20, mJ, mJ, .int x23, .ref a24, .int x25, .int x26, .int x27, mJ, mJ, mJ, mJ] [] w) := by
  refine Eq.trans (X_br f_169_878 rfl rfl) ?_
  exact mIte_eq (mX_maskK lm_169_907 rfl) (mX_maskK lm_169_881 rfl)
theorem b_169_881 {d : Nat} {a0 : Nat} {a1 : Nat} {a3 : Nat} {x4 : Int32} {x5 : Int32} {x6 : Int32} {x7 : Int32} {l9 : Int64} {x11 : Int32} {x12 : Int32} {x13 : Int32} {a19 : Nat} {a20 : Nat} {x23 : Int32} {a24 : Nat} {x25 : Int32} {x26 : Int32} {x27 : Int32} {w : MW} (h0 : mTg w a1 = 9) : mX (d + 1) 169 881 [.ref a0, .ref a1, mJ, .ref a3, .int x4, .int x5, .int x6, .int x7, mJ, .long l9, mJ, .int x11, .int x12, .int x13, mJ, mJ, mJ, mJ, mJ, .ref a19, .ref a20, mJ, mJ, .int x23, .ref a24, .int x25, .int x26, .int x27, mJ, mJ, mJ, mJ] [] w = mThen (mK d 99 [.ref a1, .int (nI 11)] w) (fun v w9 => mX (d + 1) 169 887 [.ref a0, .ref a1, mJ, .ref a3, .int x4, .int x5, .int x6, .int x7, mJ, .long l9, mJ, .int x11, .int x12, .int x13, mJ, mJ, mJ, mJ, mJ, .ref a19, .ref a20, mJ, mJ, .int x23, .ref a24, .int x25, .int x26, .int x27, mJ, mJ, mJ, mJ] (v.toList ++ []) w9) := by
  refine Eq.trans (X_st f_169_881 rfl rfl) ?_
  refine Eq.trans (X_bipush f_169_882 kc_b_11) ?_
  refine Eq.trans (X_call f_169_884 (by decide) rfl rfl rfl rfl rfl rfl (Nat.le_of_ble_eq_true rfl) (Nat.le_of_ble_eq_true rfl) (decide_eq_true h0) (Nat.le_of_ble_eq_true rfl)) ?_
  exact mThen_eq fun v w9 => mX_maskK lm_169_887 rfl
theorem b_169_887 {d : Nat} {a0 : Nat} {a1 : Nat} {a3 : Nat} {x4 : Int32} {x5 : Int32} {x6 : Int32} {x7 : Int32} {l9 : Int64} {x11 : Int32} {x12 : Int32} {x13 : Int32} {a19 : Nat} {a20 : Nat} {x23 : Int32} {a24 : Nat} {x25 : Int32} {x26 : Int32} {x27 : Int32} {y0 : Int32} {w : MW} : mX d 169 887 [.ref a0, .ref a1, mJ, .ref a3, .int x4, .int x5, .int x6, .int x7, mJ, .long l9, mJ, .int x11, .int x12, .int x13, mJ, mJ, mJ, mJ, mJ, .ref a19, .ref a20, mJ, mJ, .int x23, .ref a24, .int x25, .int x26, .int x27, mJ, mJ, mJ, mJ] [.int y0] w = (if ¬ y0 = x25 then mX d 169 907 [mJ, mJ, mJ, mJ, mJ, mJ, mJ, mJ, mJ, mJ, mJ, mJ, mJ, mJ, mJ, mJ, mJ, mJ, mJ, mJ, mJ, mJ, mJ, mJ, mJ, mJ, mJ, mJ, mJ, mJ, mJ, mJ] [] w else mX d 169 892 [.ref a0, .ref a1, mJ, .ref a3, .int x4, .int x5, .int x6, .int x7, mJ, .long l9, mJ, .int x11, .int x12, .int x13, mJ, mJ, mJ, mJ, mJ, .ref a19, .ref a20, mJ, mJ, .int x23, .ref a24, mJ, .int x26, .int x27, mJ, mJ, mJ, mJ] [] w) := by
  refine Eq.trans (X_st f_169_887 rfl rfl) ?_
  refine Eq.trans (X_br f_169_889 rfl rfl) ?_
  exact mIte_eq (mX_maskK lm_169_907 rfl) (mX_maskK lm_169_892 rfl)
theorem b_169_892 {d : Nat} {a0 : Nat} {a1 : Nat} {a3 : Nat} {x4 : Int32} {x5 : Int32} {x6 : Int32} {x7 : Int32} {l9 : Int64} {x11 : Int32} {x12 : Int32} {x13 : Int32} {a19 : Nat} {a20 : Nat} {x23 : Int32} {a24 : Nat} {x26 : Int32} {x27 : Int32} {w : MW} : mX d 169 892 [.ref a0, .ref a1, mJ, .ref a3, .int x4, .int x5, .int x6, .int x7, mJ, .long l9, mJ, .int x11, .int x12, .int x13, mJ, mJ, mJ, mJ, mJ, .ref a19, .ref a20, mJ, mJ, .int x23, .ref a24, mJ, .int x26, .int x27, mJ, mJ, mJ, mJ] [] w = (if nI 0 ≤ x11 then mX d 169 909 [.ref a0, .ref a1, mJ, .ref a3, .int x4, .int x5, .int x6, .int x7, mJ, mJ, mJ, .int x11, .int x12, .int x13, mJ, mJ, mJ, mJ, mJ, .ref a19, .ref a20, mJ, mJ, .int x23, .ref a24, mJ, .int x26, .int x27, mJ, mJ, mJ, mJ] [] w else mX d 169 897 [.ref a0, .ref a1, mJ, .ref a3, .int x4, .int x5, .int x6, .int x7, mJ, .long l9, mJ, .int x11, .int x12, .int x13, mJ, mJ, mJ, mJ, mJ, .ref a19, .ref a20, mJ, mJ, .int x23, .ref a24, mJ, .int x26, .int x27, mJ, mJ, mJ, mJ] [] w) := by
  refine Eq.trans (X_st f_169_892 rfl rfl) ?_
  refine Eq.trans (X_br f_169_894 rfl rfl) ?_
  exact mIte_eq (mX_maskK lm_169_909 rfl) (mX_maskK lm_169_897 rfl)
theorem b_169_897 {d : Nat} {a0 : Nat} {a1 : Nat} {a3 : Nat} {x4 : Int32} {x5 : Int32} {x6 : Int32} {x7 : Int32} {l9 : Int64} {x11 : Int32} {x12 : Int32} {x13 : Int32} {a19 : Nat} {a20 : Nat} {x23 : Int32} {a24 : Nat} {x26 : Int32} {x27 : Int32} {w : MW} (h0 : mTg w a1 = 9) : mX (d + 1) 169 897 [.ref a0, .ref a1, mJ, .ref a3, .int x4, .int x5, .int x6, .int x7, mJ, .long l9, mJ, .int x11, .int x12, .int x13, mJ, mJ, mJ, mJ, mJ, .ref a19, .ref a20, mJ, mJ, .int x23, .ref a24, mJ, .int x26, .int x27, mJ, mJ, mJ, mJ] [] w = mThen (mK d 117 [.ref a1] w) (fun v w9 => mX (d + 1) 169 901 [.ref a0, .ref a1, mJ, .ref a3, .int x4, .int x5, .int x6, .int x7, mJ, .long l9, mJ, .int x11, .int x12, .int x13, mJ, mJ, mJ, mJ, mJ, .ref a19, .ref a20, mJ, mJ, .int x23, .ref a24, mJ, .int x26, .int x27, mJ, mJ, mJ, mJ] (v.toList ++ []) w9) := by
  refine Eq.trans (X_st f_169_897 rfl rfl) ?_
  refine Eq.trans (X_call f_169_898 (by decide) rfl rfl rfl rfl rfl rfl (Nat.le_of_ble_eq_true rfl) (Nat.le_of_ble_eq_true rfl) (decide_eq_true h0) (Nat.le_of_ble_eq_true rfl)) ?_
  exact mThen_eq fun v w9 => mX_maskK lm_169_901 rfl
theorem b_169_901 {d : Nat} {a0 : Nat} {a1 : Nat} {a3 : Nat} {x4 : Int32} {x5 : Int32} {x6 : Int32} {x7 : Int32} {l9 : Int64} {x11 : Int32} {x12 : Int32} {x13 : Int32} {a19 : Nat} {a20 : Nat} {x23 : Int32} {a24 : Nat} {x26 : Int32} {x27 : Int32} {m0 : Int64} {w : MW} : mX d 169 901 [.ref a0, .ref a1, mJ, .ref a3, .int x4, .int x5, .int x6, .int x7, mJ, .long l9, mJ, .int x11, .int x12, .int x13, mJ, mJ, mJ, mJ, mJ, .ref a19, .ref a20, mJ, mJ, .int x23, .ref a24, mJ, .int x26, .int x27, mJ, mJ, mJ, mJ] [.long m0] w = (if (lg_cmp m0 l9) = nI 0 then mX d 169 909 [.ref a0, .ref a1, mJ, .ref a3, .int x4, .int x5, .int x6, .int x7, mJ, mJ, mJ, .int x11, .int x12, .int x13, mJ, mJ, mJ, mJ, mJ, .ref a19, .ref a20, mJ, mJ, .int x23, .ref a24, mJ, .int x26, .int x27, mJ, mJ, mJ, mJ] [] w else mX d 169 907 [mJ, mJ, mJ, mJ, mJ, mJ, mJ, mJ, mJ, mJ, mJ, mJ, mJ, mJ, mJ, mJ, mJ, mJ, mJ, mJ, mJ, mJ, mJ, mJ, mJ, mJ, mJ, mJ, mJ, mJ, mJ, mJ] [] w) := by
  refine Eq.trans (X_st f_169_901 rfl rfl) ?_
  refine Eq.trans (X_st f_169_903 rfl rfl) ?_
  refine Eq.trans (X_br f_169_904 rfl rfl) ?_
  exact mIte_eq (mX_maskK lm_169_909 rfl) (mX_maskK lm_169_907 rfl)
theorem b_169_907 {d : Nat} {w : MW} : mX d 169 907 [mJ, mJ, mJ, mJ, mJ, mJ, mJ, mJ, mJ, mJ, mJ, mJ, mJ, mJ, mJ, mJ, mJ, mJ, mJ, mJ, mJ, mJ, mJ, mJ, mJ, mJ, mJ, mJ, mJ, mJ, mJ, mJ] [] w = some (.inl (some (.int (nI 0))), w) := by
  refine Eq.trans (X_iconst f_169_907 kc_i_0) ?_
  exact X_ireturn f_169_908 rfl
theorem b_169_909 {d : Nat} {a0 : Nat} {a1 : Nat} {a3 : Nat} {x4 : Int32} {x5 : Int32} {x6 : Int32} {x7 : Int32} {x11 : Int32} {x12 : Int32} {x13 : Int32} {a19 : Nat} {a20 : Nat} {x23 : Int32} {a24 : Nat} {x26 : Int32} {x27 : Int32} {w : MW} : mX d 169 909 [.ref a0, .ref a1, mJ, .ref a3, .int x4, .int x5, .int x6, .int x7, mJ, mJ, mJ, .int x11, .int x12, .int x13, mJ, mJ, mJ, mJ, mJ, .ref a19, .ref a20, mJ, mJ, .int x23, .ref a24, mJ, .int x26, .int x27, mJ, mJ, mJ, mJ] [] w = mX d 169 912 [.ref a0, .ref a1, mJ, .ref a3, .int x4, .int x5, .int x6, .int x7, mJ, mJ, mJ, .int x11, .int x12, .int x13, mJ, mJ, mJ, mJ, mJ, .ref a19, .ref a20, mJ, mJ, .int x23, .ref a24, mJ, .int x26, .int x27, .int (nI 0), mJ, mJ, mJ] [] w := by
  refine Eq.trans (X_iconst f_169_909 kc_i_0) ?_
  refine Eq.trans (X_istore (L' := [.ref a0, .ref a1, mJ, .ref a3, .int x4, .int x5, .int x6, .int x7, mJ, mJ, mJ, .int x11, .int x12, .int x13, mJ, mJ, mJ, mJ, mJ, .ref a19, .ref a20, mJ, mJ, .int x23, .ref a24, mJ, .int x26, .int x27, .int (nI 0), mJ, mJ, mJ]) f_169_910 (Nat.le_of_ble_eq_true rfl) rfl) ?_
  exact mX_maskK lm_169_912 rfl
theorem b_169_912 {d : Nat} {a0 : Nat} {a1 : Nat} {a3 : Nat} {x4 : Int32} {x5 : Int32} {x6 : Int32} {x7 : Int32} {x11 : Int32} {x12 : Int32} {x13 : Int32} {a19 : Nat} {a20 : Nat} {x23 : Int32} {a24 : Nat} {x26 : Int32} {x27 : Int32} {x28 : Int32} {w : MW} : mX d 169 912 [.ref a0, .ref a1, mJ, .ref a3, .int x4, .int x5, .int x6, .int x7, mJ, mJ, mJ, .int x11, .int x12, .int x13, mJ, mJ, mJ, mJ, mJ, .ref a19, .ref a20, mJ, mJ, .int x23, .ref a24, mJ, .int x26, .int x27, .int x28, mJ, mJ, mJ] [] w = (if x4 ≤ x28 then mX d 169 1117 [.ref a0, .ref a1, mJ, .ref a3, .int x4, .int x5, .int x6, .int x7, mJ, mJ, mJ, .int x11, .int x12, mJ, mJ, mJ, mJ, mJ, mJ, mJ, mJ, mJ, mJ, .int x23, mJ, mJ, .int x26, .int x27, mJ, mJ, mJ, mJ] [] w else mX d 169 919 [.ref a0, .ref a1, mJ, .ref a3, .int x4, .int x5, .int x6, .int x7, mJ, mJ, mJ, .int x11, .int x12, .int x13, mJ, mJ, mJ, mJ, mJ, .ref a19, .ref a20, mJ, mJ, .int x23, .ref a24, mJ, .int x26, .int x27, .int x28, mJ, mJ, mJ] [] w) := by
  refine Eq.trans (X_st f_169_912 rfl rfl) ?_
  refine Eq.trans (X_st f_169_914 rfl rfl) ?_
  refine Eq.trans (X_br f_169_916 rfl rfl) ?_
  exact mIte_eq (mX_maskK lm_169_1117 rfl) (mX_maskK lm_169_919 rfl)
theorem b_169_919 {d : Nat} {a0 : Nat} {a1 : Nat} {a3 : Nat} {x4 : Int32} {x5 : Int32} {x6 : Int32} {x7 : Int32} {x11 : Int32} {x12 : Int32} {x13 : Int32} {a19 : Nat} {a20 : Nat} {x23 : Int32} {a24 : Nat} {x26 : Int32} {x27 : Int32} {x28 : Int32} {w : MW} : mX d 169 919 [.ref a0, .ref a1, mJ, .ref a3, .int x4, .int x5, .int x6, .int x7, mJ, mJ, mJ, .int x11, .int x12, .int x13, mJ, mJ, mJ, mJ, mJ, .ref a19, .ref a20, mJ, mJ, .int x23, .ref a24, mJ, .int x26, .int x27, .int x28, mJ, mJ, mJ] [] w = mX d 169 925 [.ref a0, .ref a1, mJ, .ref a3, .int x4, .int x5, .int x6, .int x7, mJ, mJ, mJ, .int x11, .int x12, .int x13, mJ, mJ, mJ, mJ, mJ, .ref a19, .ref a20, mJ, mJ, .int x23, .ref a24, mJ, .int x26, .int x27, .int x28, .int (nI 0), .int (nI 0), mJ] [] w := by
  refine Eq.trans (X_iconst f_169_919 kc_i_0) ?_
  refine Eq.trans (X_istore (L' := [.ref a0, .ref a1, mJ, .ref a3, .int x4, .int x5, .int x6, .int x7, mJ, mJ, mJ, .int x11, .int x12, .int x13, mJ, mJ, mJ, mJ, mJ, .ref a19, .ref a20, mJ, mJ, .int x23, .ref a24, mJ, .int x26, .int x27, .int x28, .int (nI 0), mJ, mJ]) f_169_920 (Nat.le_of_ble_eq_true rfl) rfl) ?_
  refine Eq.trans (X_iconst f_169_922 kc_i_0) ?_
  refine Eq.trans (X_istore (L' := [.ref a0, .ref a1, mJ, .ref a3, .int x4, .int x5, .int x6, .int x7, mJ, mJ, mJ, .int x11, .int x12, .int x13, mJ, mJ, mJ, mJ, mJ, .ref a19, .ref a20, mJ, mJ, .int x23, .ref a24, mJ, .int x26, .int x27, .int x28, .int (nI 0), .int (nI 0), mJ]) f_169_923 (Nat.le_of_ble_eq_true rfl) rfl) ?_
  exact mX_maskK lm_169_925 rfl
theorem b_169_925 {d : Nat} {a0 : Nat} {a1 : Nat} {a3 : Nat} {x4 : Int32} {x5 : Int32} {x6 : Int32} {x7 : Int32} {x11 : Int32} {x12 : Int32} {x13 : Int32} {a19 : Nat} {a20 : Nat} {x23 : Int32} {a24 : Nat} {x26 : Int32} {x27 : Int32} {x28 : Int32} {x29 : Int32} {x30 : Int32} {w : MW} : mX d 169 925 [.ref a0, .ref a1, mJ, .ref a3, .int x4, .int x5, .int x6, .int x7, mJ, mJ, mJ, .int x11, .int x12, .int x13, mJ, mJ, mJ, mJ, mJ, .ref a19, .ref a20, mJ, mJ, .int x23, .ref a24, mJ, .int x26, .int x27, .int x28, .int x29, .int x30, mJ] [] w = (if x6 ≤ x30 then mX d 169 951 [.ref a0, .ref a1, mJ, .ref a3, .int x4, .int x5, .int x6, .int x7, mJ, mJ, mJ, .int x11, .int x12, .int x13, mJ, mJ, mJ, mJ, mJ, .ref a19, .ref a20, mJ, mJ, .int x23, .ref a24, mJ, .int x26, .int x27, .int x28, .int x29, mJ, mJ] [] w else mX d 169 932 [.ref a0, .ref a1, mJ, .ref a3, .int x4, .int x5, .int x6, .int x7, mJ, mJ, mJ, .int x11, .int x12, .int x13, mJ, mJ, mJ, mJ, mJ, .ref a19, .ref a20, mJ, mJ, .int x23, .ref a24, mJ, .int x26, .int x27, .int x28, .int x29, .int x30, mJ] [] w) := by
  refine Eq.trans (X_st f_169_925 rfl rfl) ?_
  refine Eq.trans (X_st f_169_927 rfl rfl) ?_
  refine Eq.trans (X_br f_169_929 rfl rfl) ?_
  exact mIte_eq (mX_maskK lm_169_951 rfl) (mX_maskK lm_169_932 rfl)
theorem b_169_932 {d : Nat} {a0 : Nat} {a1 : Nat} {a3 : Nat} {x4 : Int32} {x5 : Int32} {x6 : Int32} {x7 : Int32} {x11 : Int32} {x12 : Int32} {x13 : Int32} {a19 : Nat} {a20 : Nat} {x23 : Int32} {a24 : Nat} {x26 : Int32} {x27 : Int32} {x28 : Int32} {x29 : Int32} {x30 : Int32} {w : MW} (h0 : mTg w a1 = 9) : mX (d + 1) 169 932 [.ref a0, .ref a1, mJ, .ref a3, .int x4, .int x5, .int x6, .int x7, mJ, mJ, mJ, .int x11, .int x12, .int x13, mJ, mJ, mJ, mJ, mJ, .ref a19, .ref a20, mJ, mJ, .int x23, .ref a24, mJ, .int x26, .int x27, .int x28, .int x29, .int x30, mJ] [] w = mThen (mK d 105 [.ref a1, .int x28, .int x30] w) (fun v w9 => mX (d + 1) 169 942 [.ref a0, .ref a1, mJ, .ref a3, .int x4, .int x5, .int x6, .int x7, mJ, mJ, mJ, .int x11, .int x12, .int x13, mJ, mJ, mJ, mJ, mJ, .ref a19, .ref a20, mJ, mJ, .int x23, .ref a24, mJ, .int x26, .int x27, .int x28, mJ, .int x30, mJ] (v.toList ++ [.int x29]) w9) := by
  refine Eq.trans (X_st f_169_932 rfl rfl) ?_
  refine Eq.trans (X_st f_169_934 rfl rfl) ?_
  refine Eq.trans (X_st f_169_935 rfl rfl) ?_
  refine Eq.trans (X_st f_169_937 rfl rfl) ?_
  refine Eq.trans (X_call f_169_939 (by decide) rfl rfl rfl rfl rfl rfl (Nat.le_of_ble_eq_true rfl) (Nat.le_of_ble_eq_true rfl) (decide_eq_true h0) (Nat.le_of_ble_eq_true rfl)) ?_
  exact mThen_eq fun v w9 => mX_maskK lm_169_942 rfl
theorem b_169_942 {d : Nat} {a0 : Nat} {a1 : Nat} {a3 : Nat} {x4 : Int32} {x5 : Int32} {x6 : Int32} {x7 : Int32} {x11 : Int32} {x12 : Int32} {x13 : Int32} {a19 : Nat} {a20 : Nat} {x23 : Int32} {a24 : Nat} {x26 : Int32} {x27 : Int32} {x28 : Int32} {x30 : Int32} {y0 : Int32} {y1 : Int32} {w : MW} : mX d 169 942 [.ref a0, .ref a1, mJ, .ref a3, .int x4, .int x5, .int x6, .int x7, mJ, mJ, mJ, .int x11, .int x12, .int x13, mJ, mJ, mJ, mJ, mJ, .ref a19, .ref a20, mJ, mJ, .int x23, .ref a24, mJ, .int x26, .int x27, .int x28, mJ, .int x30, mJ] [.int y0, .int y1] w = mX d 169 925 [.ref a0, .ref a1, mJ, .ref a3, .int x4, .int x5, .int x6, .int x7, mJ, mJ, mJ, .int x11, .int x12, .int x13, mJ, mJ, mJ, mJ, mJ, .ref a19, .ref a20, mJ, mJ, .int x23, .ref a24, mJ, .int x26, .int x27, .int x28, .int (y1 + y0), .int (x30 + (nI 1)), mJ] [] w := by
  refine Eq.trans (X_st f_169_942 rfl rfl) ?_
  refine Eq.trans (X_istore (L' := [.ref a0, .ref a1, mJ, .ref a3, .int x4, .int x5, .int x6, .int x7, mJ, mJ, mJ, .int x11, .int x12, .int x13, mJ, mJ, mJ, mJ, mJ, .ref a19, .ref a20, mJ, mJ, .int x23, .ref a24, mJ, .int x26, .int x27, .int x28, .int (y1 + y0), .int x30, mJ]) f_169_943 (Nat.le_of_ble_eq_true rfl) rfl) ?_
  refine Eq.trans (X_iinc f_169_945 kc_i_1 rfl rfl) ?_
  refine Eq.trans (X_st f_169_948 rfl rfl) ?_
  exact mX_maskK lm_169_925 rfl
theorem b_169_951 {d : Nat} {a0 : Nat} {a1 : Nat} {a3 : Nat} {x4 : Int32} {x5 : Int32} {x6 : Int32} {x7 : Int32} {x11 : Int32} {x12 : Int32} {x13 : Int32} {a19 : Nat} {a20 : Nat} {x23 : Int32} {a24 : Nat} {x26 : Int32} {x27 : Int32} {x28 : Int32} {x29 : Int32} {w : MW} : mX d 169 951 [.ref a0, .ref a1, mJ, .ref a3, .int x4, .int x5, .int x6, .int x7, mJ, mJ, mJ, .int x11, .int x12, .int x13, mJ, mJ, mJ, mJ, mJ, .ref a19, .ref a20, mJ, mJ, .int x23, .ref a24, mJ, .int x26, .int x27, .int x28, .int x29, mJ, mJ] [] w = (if ¬ x28 = x12 then mX d 169 973 [.ref a0, .ref a1, mJ, .ref a3, .int x4, .int x5, .int x6, .int x7, mJ, mJ, mJ, .int x11, .int x12, .int x13, mJ, mJ, mJ, mJ, mJ, .ref a19, .ref a20, mJ, mJ, .int x23, .ref a24, mJ, .int x26, .int x27, .int x28, .int x29, mJ, mJ] [] w else mX d 169 958 [.ref a0, .ref a1, mJ, .ref a3, .int x4, .int x5, .int x6, .int x7, mJ, mJ, mJ, .int x11, .int x12, .int x13, mJ, mJ, mJ, mJ, mJ, .ref a19, .ref a20, mJ, mJ, .int x23, .ref a24, mJ, .int x26, .int x27, .int x28, .int x29, mJ, mJ] [] w) := by
  refine Eq.trans (X_st f_169_951 rfl rfl) ?_
  refine Eq.trans (X_st f_169_953 rfl rfl) ?_
  refine Eq.trans (X_br f_169_955 rfl rfl) ?_
  exact mIte_eq (mX_maskK lm_169_973 rfl) (mX_maskK lm_169_958 rfl)
theorem b_169_958 {d : Nat} {a0 : Nat} {a1 : Nat} {a3 : Nat} {x4 : Int32} {x5 : Int32} {x6 : Int32} {x7 : Int32} {x11 : Int32} {x12 : Int32} {x13 : Int32} {a19 : Nat} {a20 : Nat} {x23 : Int32} {a24 : Nat} {x26 : Int32} {x27 : Int32} {x28 : Int32} {x29 : Int32} {w : MW} : mX d 169 958 [.ref a0, .ref a1, mJ, .ref a3, .int x4, .int x5, .int x6, .int x7, mJ, mJ, mJ, .int x11, .int x12, .int x13, mJ, mJ, mJ, mJ, mJ, .ref a19, .ref a20, mJ, mJ, .int x23, .ref a24, mJ, .int x26, .int x27, .int x28, .int x29, mJ, mJ] [] w = (if x13 < nI 0 then mX d 169 973 [.ref a0, .ref a1, mJ, .ref a3, .int x4, .int x5, .int x6, .int x7, mJ, mJ, mJ, .int x11, .int x12, .int x13, mJ, mJ, mJ, mJ, mJ, .ref a19, .ref a20, mJ, mJ, .int x23, .ref a24, mJ, .int x26, .int x27, .int x28, .int x29, mJ, mJ] [] w else mX d 169 963 [.ref a0, .ref a1, mJ, .ref a3, .int x4, .int x5, .int x6, .int x7, mJ, mJ, mJ, .int x11, .int x12, .int x13, mJ, mJ, mJ, mJ, mJ, .ref a19, .ref a20, mJ, mJ, .int x23, .ref a24, mJ, .int x26, .int x27, .int x28, .int x29, mJ, mJ] [] w) := by
  refine Eq.trans (X_st f_169_958 rfl rfl) ?_
  refine Eq.trans (X_br f_169_960 rfl rfl) ?_
  exact mIte_eq (mX_maskK lm_169_973 rfl) (mX_maskK lm_169_963 rfl)
theorem b_169_963 {d : Nat} {a0 : Nat} {a1 : Nat} {a3 : Nat} {x4 : Int32} {x5 : Int32} {x6 : Int32} {x7 : Int32} {x11 : Int32} {x12 : Int32} {x13 : Int32} {a19 : Nat} {a20 : Nat} {x23 : Int32} {a24 : Nat} {x26 : Int32} {x27 : Int32} {x28 : Int32} {x29 : Int32} {w : MW} (h0 : mTg w a1 = 9) : mX (d + 1) 169 963 [.ref a0, .ref a1, mJ, .ref a3, .int x4, .int x5, .int x6, .int x7, mJ, mJ, mJ, .int x11, .int x12, .int x13, mJ, mJ, mJ, mJ, mJ, .ref a19, .ref a20, mJ, mJ, .int x23, .ref a24, mJ, .int x26, .int x27, .int x28, .int x29, mJ, mJ] [] w = mThen (mK d 101 [.ref a1, .int x13, .int (nI 0)] w) (fun v w9 => mX (d + 1) 169 970 [.ref a0, .ref a1, mJ, .ref a3, .int x4, .int x5, .int x6, .int x7, mJ, mJ, mJ, .int x11, .int x12, .int x13, mJ, mJ, mJ, mJ, mJ, .ref a19, .ref a20, mJ, mJ, .int x23, .ref a24, mJ, .int x26, .int x27, .int x28, .int x29, mJ, mJ] (v.toList ++ []) w9) := by
  refine Eq.trans (X_st f_169_963 rfl rfl) ?_
  refine Eq.trans (X_st f_169_964 rfl rfl) ?_
  refine Eq.trans (X_iconst f_169_966 kc_i_0) ?_
  refine Eq.trans (X_call f_169_967 (by decide) rfl rfl rfl rfl rfl rfl (Nat.le_of_ble_eq_true rfl) (Nat.le_of_ble_eq_true rfl) (decide_eq_true h0) (Nat.le_of_ble_eq_true rfl)) ?_
  exact mThen_eq fun v w9 => mX_maskK lm_169_970 rfl
theorem b_169_970 {d : Nat} {a0 : Nat} {a1 : Nat} {a3 : Nat} {x4 : Int32} {x5 : Int32} {x6 : Int32} {x7 : Int32} {x11 : Int32} {x12 : Int32} {x13 : Int32} {a19 : Nat} {a20 : Nat} {x23 : Int32} {a24 : Nat} {x26 : Int32} {x27 : Int32} {x28 : Int32} {x29 : Int32} {y0 : Int32} {w : MW} : mX d 169 970 [.ref a0, .ref a1, mJ, .ref a3, .int x4, .int x5, .int x6, .int x7, mJ, mJ, mJ, .int x11, .int x12, .int x13, mJ, mJ, mJ, mJ, mJ, .ref a19, .ref a20, mJ, mJ, .int x23, .ref a24, mJ, .int x26, .int x27, .int x28, .int x29, mJ, mJ] [.int y0] w = mX d 169 974 [.ref a0, .ref a1, mJ, .ref a3, .int x4, .int x5, .int x6, .int x7, mJ, mJ, mJ, .int x11, .int x12, .int x13, mJ, mJ, mJ, mJ, mJ, .ref a19, .ref a20, mJ, mJ, .int x23, .ref a24, mJ, .int x26, .int x27, .int x28, .int x29, mJ, mJ] [.int y0] w := by
  refine Eq.trans (X_st f_169_970 rfl rfl) ?_
  exact mX_maskK lm_169_974 rfl
theorem b_169_973 {d : Nat} {a0 : Nat} {a1 : Nat} {a3 : Nat} {x4 : Int32} {x5 : Int32} {x6 : Int32} {x7 : Int32} {x11 : Int32} {x12 : Int32} {x13 : Int32} {a19 : Nat} {a20 : Nat} {x23 : Int32} {a24 : Nat} {x26 : Int32} {x27 : Int32} {x28 : Int32} {x29 : Int32} {w : MW} : mX d 169 973 [.ref a0, .ref a1, mJ, .ref a3, .int x4, .int x5, .int x6, .int x7, mJ, mJ, mJ, .int x11, .int x12, .int x13, mJ, mJ, mJ, mJ, mJ, .ref a19, .ref a20, mJ, mJ, .int x23, .ref a24, mJ, .int x26, .int x27, .int x28, .int x29, mJ, mJ] [] w = mX d 169 974 [.ref a0, .ref a1, mJ, .ref a3, .int x4, .int x5, .int x6, .int x7, mJ, mJ, mJ, .int x11, .int x12, .int x13, mJ, mJ, mJ, mJ, mJ, .ref a19, .ref a20, mJ, mJ, .int x23, .ref a24, mJ, .int x26, .int x27, .int x28, .int x29, mJ, mJ] [.int (nI 0)] w := by
  refine Eq.trans (X_iconst f_169_973 kc_i_0) ?_
  exact mX_maskK lm_169_974 rfl
theorem b_169_974 {d : Nat} {a0 : Nat} {a1 : Nat} {a3 : Nat} {x4 : Int32} {x5 : Int32} {x6 : Int32} {x7 : Int32} {x11 : Int32} {x12 : Int32} {x13 : Int32} {a19 : Nat} {a20 : Nat} {x23 : Int32} {a24 : Nat} {x26 : Int32} {x27 : Int32} {x28 : Nat} {x29 : Int32} {y0 : Int32} {w : MW} (h0 : mTg w a19 = 50) (h1 : x28 < 2147483648) (h2 : x28 < mLn w a19) : mX d 169 974 [.ref a0, .ref a1, mJ, .ref a3, .int x4, .int x5, .int x6, .int x7, mJ, mJ, mJ, .int x11, .int x12, .int x13, mJ, mJ, mJ, mJ, mJ, .ref a19, .ref a20, mJ, mJ, .int x23, .ref a24, mJ, .int x26, .int x27, .int (nI x28), .int x29, mJ, mJ] [.int y0] w = (if x29 = (mI w a19 x28) then mX d 169 1001 [.ref a0, .ref a1, mJ, .ref a3, .int x4, .int x5, .int x6, .int x7, mJ, mJ, mJ, .int x11, .int x12, .int x13, mJ, mJ, mJ, mJ, mJ, .ref a19, .ref a20, mJ, mJ, .int x23, .ref a24, mJ, .int x26, .int x27, .int (nI x28), mJ, mJ, mJ] [] w else mX d 169 986 [.ref a0, .ref a1, mJ, .ref a3, .int x4, .int x5, .int x6, .int x7, mJ, mJ, mJ, .int x11, .int x12, .int x13, mJ, mJ, mJ, mJ, mJ, .ref a19, .ref a20, mJ, mJ, .int x23, .ref a24, mJ, .int x26, .int x27, .int (nI x28), .int x29, .int y0, mJ] [] w) := by
  refine Eq.trans (X_istore (L' := [.ref a0, .ref a1, mJ, .ref a3, .int x4, .int x5, .int x6, .int x7, mJ, mJ, mJ, .int x11, .int x12, .int x13, mJ, mJ, mJ, mJ, mJ, .ref a19, .ref a20, mJ, mJ, .int x23, .ref a24, mJ, .int x26, .int x27, .int (nI x28), .int x29, .int y0, mJ]) f_169_974 (Nat.le_of_ble_eq_true rfl) rfl) ?_
  refine Eq.trans (X_st f_169_976 rfl rfl) ?_
  refine Eq.trans (X_st f_169_978 rfl rfl) ?_
  refine Eq.trans (X_st f_169_980 rfl rfl) ?_
  refine Eq.trans (X_iald f_169_982 h0 (jnn h1) (jcl h1) h2) ?_
  refine Eq.trans (X_br f_169_983 rfl rfl) ?_
  exact mIte_eq (mX_maskK lm_169_1001 rfl) (mX_maskK lm_169_986 rfl)
theorem b_169_986 {d : Nat} {a0 : Nat} {a1 : Nat} {a3 : Nat} {x4 : Int32} {x5 : Int32} {x6 : Int32} {x7 : Int32} {x11 : Int32} {x12 : Int32} {x13 : Int32} {a19 : Nat} {a20 : Nat} {x23 : Int32} {a24 : Nat} {x26 : Int32} {x27 : Int32} {x28 : Nat} {x29 : Int32} {x30 : Int32} {w : MW} (h0 : mTg w a19 = 50) (h1 : x28 < 2147483648) (h2 : x28 < mLn w a19) : mX d 169 986 [.ref a0, .ref a1, mJ, .ref a3, .int x4, .int x5, .int x6, .int x7, mJ, mJ, mJ, .int x11, .int x12, .int x13, mJ, mJ, mJ, mJ, mJ, .ref a19, .ref a20, mJ, mJ, .int x23, .ref a24, mJ, .int x26, .int x27, .int (nI x28), .int x29, .int x30, mJ] [] w = (if x29 = ((mI w a19 x28) + x30) then mX d 169 1001 [.ref a0, .ref a1, mJ, .ref a3, .int x4, .int x5, .int x6, .int x7, mJ, mJ, mJ, .int x11, .int x12, .int x13, mJ, mJ, mJ, mJ, mJ, .ref a19, .ref a20, mJ, mJ, .int x23, .ref a24, mJ, .int x26, .int x27, .int (nI x28), mJ, mJ, mJ] [] w else mX d 169 999 [mJ, mJ, mJ, mJ, mJ, mJ, mJ, mJ, mJ, mJ, mJ, mJ, mJ, mJ, mJ, mJ, mJ, mJ, mJ, mJ, mJ, mJ, mJ, mJ, mJ, mJ, mJ, mJ, mJ, mJ, mJ, mJ] [] w) := by
  refine Eq.trans (X_st f_169_986 rfl rfl) ?_
  refine Eq.trans (X_st f_169_988 rfl rfl) ?_
  refine Eq.trans (X_st f_169_990 rfl rfl) ?_
  refine Eq.trans (X_iald f_169_992 h0 (jnn h1) (jcl h1) h2) ?_
  refine Eq.trans (X_st f_169_993 rfl rfl) ?_
  refine Eq.trans (X_st f_169_995 rfl rfl) ?_
  refine Eq.trans (X_br f_169_996 rfl rfl) ?_
  exact mIte_eq (mX_maskK lm_169_1001 rfl) (mX_maskK lm_169_999 rfl)
theorem b_169_999 {d : Nat} {w : MW} : mX d 169 999 [mJ, mJ, mJ, mJ, mJ, mJ, mJ, mJ, mJ, mJ, mJ, mJ, mJ, mJ, mJ, mJ, mJ, mJ, mJ, mJ, mJ, mJ, mJ, mJ, mJ, mJ, mJ, mJ, mJ, mJ, mJ, mJ] [] w = some (.inl (some (.int (nI 0))), w) := by
  refine Eq.trans (X_iconst f_169_999 kc_i_0) ?_
  exact X_ireturn f_169_1000 rfl
theorem b_169_1001 {d : Nat} {a0 : Nat} {a1 : Nat} {a3 : Nat} {x4 : Int32} {x5 : Int32} {x6 : Int32} {x7 : Int32} {x11 : Int32} {x12 : Int32} {x13 : Int32} {a19 : Nat} {a20 : Nat} {x23 : Int32} {a24 : Nat} {x26 : Int32} {x27 : Int32} {x28 : Int32} {w : MW} : mX d 169 1001 [.ref a0, .ref a1, mJ, .ref a3, .int x4, .int x5, .int x6, .int x7, mJ, mJ, mJ, .int x11, .int x12, .int x13, mJ, mJ, mJ, mJ, mJ, .ref a19, .ref a20, mJ, mJ, .int x23, .ref a24, mJ, .int x26, .int x27, .int x28, mJ, mJ, mJ] [] w = (if ¬ x27 = (nI 1) then mX d 169 1033 [.ref a0, .ref a1, mJ, .ref a3, .int x4, .int x5, .int x6, .int x7, mJ, mJ, mJ, .int x11, .int x12, .int x13, mJ, mJ, mJ, mJ, mJ, .ref a19, .ref a20, mJ, mJ, .int x23, .ref a24, mJ, .int x26, .int x27, .int x28, mJ, mJ, mJ] [] w else mX d 169 1007 [.ref a0, .ref a1, mJ, .ref a3, .int x4, .int x5, .int x6, .int x7, mJ, mJ, mJ, .int x11, .int x12, .int x13, mJ, mJ, mJ, mJ, mJ, .ref a19, .ref a20, mJ, mJ, .int x23, .ref a24, mJ, .int x26, .int x27, .int x28, mJ, mJ, mJ] [] w) := by
  refine Eq.trans (X_st f_169_1001 rfl rfl) ?_
  refine Eq.trans (X_iconst f_169_1003 kc_i_1) ?_
  refine Eq.trans (X_br f_169_1004 rfl rfl) ?_
  exact mIte_eq (mX_maskK lm_169_1033 rfl) (mX_maskK lm_169_1007 rfl)
theorem b_169_1007 {d : Nat} {a0 : Nat} {a1 : Nat} {a3 : Nat} {x4 : Int32} {x5 : Int32} {x6 : Int32} {x7 : Int32} {x11 : Int32} {x12 : Int32} {x13 : Int32} {a19 : Nat} {a20 : Nat} {x23 : Int32} {a24 : Nat} {x26 : Int32} {x27 : Int32} {x28 : Nat} {w : MW} (h0 : mTg w a24 = 50) (h1 : x28 < 2147483648) (h2 : x28 < mLn w a24) : mX d 169 1007 [.ref a0, .ref a1, mJ, .ref a3, .int x4, .int x5, .int x6, .int x7, mJ, mJ, mJ, .int x11, .int x12, .int x13, mJ, mJ, mJ, mJ, mJ, .ref a19, .ref a20, mJ, mJ, .int x23, .ref a24, mJ, .int x26, .int x27, .int (nI x28), mJ, mJ, mJ] [] w = (if (mI w a24 x28) ≤ nI 0 then mX d 169 1033 [.ref a0, .ref a1, mJ, .ref a3, .int x4, .int x5, .int x6, .int x7, mJ, mJ, mJ, .int x11, .int x12, .int x13, mJ, mJ, mJ, mJ, mJ, .ref a19, .ref a20, mJ, mJ, .int x23, .ref a24, mJ, .int x26, .int x27, .int (nI x28), mJ, mJ, mJ] [] w else mX d 169 1015 [.ref a0, .ref a1, mJ, .ref a3, .int x4, .int x5, .int x6, .int x7, mJ, mJ, mJ, .int x11, .int x12, .int x13, mJ, mJ, mJ, mJ, mJ, .ref a19, .ref a20, mJ, mJ, .int x23, .ref a24, mJ, .int x26, .int x27, .int (nI x28), mJ, mJ, mJ] [] w) := by
  refine Eq.trans (X_st f_169_1007 rfl rfl) ?_
  refine Eq.trans (X_st f_169_1009 rfl rfl) ?_
  refine Eq.trans (X_iald f_169_1011 h0 (jnn h1) (jcl h1) h2) ?_
  refine Eq.trans (X_br f_169_1012 rfl rfl) ?_
  exact mIte_eq (mX_maskK lm_169_1033 rfl) (mX_maskK lm_169_1015 rfl)
theorem b_169_1015 {d : Nat} {a0 : Nat} {a1 : Nat} {a3 : Nat} {x4 : Int32} {x5 : Int32} {x6 : Int32} {x7 : Int32} {x11 : Int32} {x12 : Int32} {x13 : Int32} {a19 : Nat} {a20 : Nat} {x23 : Int32} {a24 : Nat} {x26 : Int32} {x27 : Int32} {x28 : Int32} {w : MW} (h0 : mTg w a1 = 9) : mX (d + 1) 169 1015 [.ref a0, .ref a1, mJ, .ref a3, .int x4, .int x5, .int x6, .int x7, mJ, mJ, mJ, .int x11, .int x12, .int x13, mJ, mJ, mJ, mJ, mJ, .ref a19, .ref a20, mJ, mJ, .int x23, .ref a24, mJ, .int x26, .int x27, .int x28, mJ, mJ, mJ] [] w = mThen (mK d 113 [.ref a1, .int x28] w) (fun v w9 => mX (d + 1) 169 1021 [.ref a0, .ref a1, mJ, .ref a3, .int x4, .int x5, .int x6, .int x7, mJ, mJ, mJ, .int x11, .int x12, .int x13, mJ, mJ, mJ, mJ, mJ, .ref a19, .ref a20, mJ, mJ, .int x23, .ref a24, mJ, .int x26, .int x27, .int x28, mJ, mJ, mJ] (v.toList ++ []) w9) := by
  refine Eq.trans (X_st f_169_1015 rfl rfl) ?_
  refine Eq.trans (X_st f_169_1016 rfl rfl) ?_
  refine Eq.trans (X_call f_169_1018 (by decide) rfl rfl rfl rfl rfl rfl (Nat.le_of_ble_eq_true rfl) (Nat.le_of_ble_eq_true rfl) (decide_eq_true h0) (Nat.le_of_ble_eq_true rfl)) ?_
  exact mThen_eq fun v w9 => mX_maskK lm_169_1021 rfl
theorem b_169_1021 {d : Nat} {a0 : Nat} {a1 : Nat} {a3 : Nat} {x4 : Int32} {x5 : Int32} {x6 : Int32} {x7 : Int32} {x11 : Int32} {x12 : Int32} {x13 : Int32} {a19 : Nat} {a20 : Nat} {x23 : Int32} {a24 : Nat} {x26 : Int32} {x27 : Int32} {x28 : Nat} {y0 : Int32} {w : MW} (h0 : mTg w a24 = 50) (h1 : x28 < 2147483648) (h2 : x28 < mLn w a24) : mX d 169 1021 [.ref a0, .ref a1, mJ, .ref a3, .int x4, .int x5, .int x6, .int x7, mJ, mJ, mJ, .int x11, .int x12, .int x13, mJ, mJ, mJ, mJ, mJ, .ref a19, .ref a20, mJ, mJ, .int x23, .ref a24, mJ, .int x26, .int x27, .int (nI x28), mJ, mJ, mJ] [.int y0] w = (if y0 = ((mI w a24 x28) - (nI 1)) then mX d 169 1033 [.ref a0, .ref a1, mJ, .ref a3, .int x4, .int x5, .int x6, .int x7, mJ, mJ, mJ, .int x11, .int x12, .int x13, mJ, mJ, mJ, mJ, mJ, .ref a19, .ref a20, mJ, mJ, .int x23, .ref a24, mJ, .int x26, .int x27, .int (nI x28), mJ, mJ, mJ] [] w else mX d 169 1031 [mJ, mJ, mJ, mJ, mJ, mJ, mJ, mJ, mJ, mJ, mJ, mJ, mJ, mJ, mJ, mJ, mJ, mJ, mJ, mJ, mJ, mJ, mJ, mJ, mJ, mJ, mJ, mJ, mJ, mJ, mJ, mJ] [] w) := by
  refine Eq.trans (X_st f_169_1021 rfl rfl) ?_
  refine Eq.trans (X_st f_169_1023 rfl rfl) ?_
  refine Eq.trans (X_iald f_169_1025 h0 (jnn h1) (jcl h1) h2) ?_
  refine Eq.trans (X_iconst f_169_1026 kc_i_1) ?_
  refine Eq.trans (X_st f_169_1027 rfl rfl) ?_
  refine Eq.trans (X_br f_169_1028 rfl rfl) ?_
  exact mIte_eq (mX_maskK lm_169_1033 rfl) (mX_maskK lm_169_1031 rfl)
theorem b_169_1031 {d : Nat} {w : MW} : mX d 169 1031 [mJ, mJ, mJ, mJ, mJ, mJ, mJ, mJ, mJ, mJ, mJ, mJ, mJ, mJ, mJ, mJ, mJ, mJ, mJ, mJ, mJ, mJ, mJ, mJ, mJ, mJ, mJ, mJ, mJ, mJ, mJ, mJ] [] w = some (.inl (some (.int (nI 0))), w) := by
  refine Eq.trans (X_iconst f_169_1031 kc_i_0) ?_
  exact X_ireturn f_169_1032 rfl
theorem b_169_1033 {d : Nat} {a0 : Nat} {a1 : Nat} {a3 : Nat} {x4 : Int32} {x5 : Int32} {x6 : Int32} {x7 : Int32} {x11 : Int32} {x12 : Int32} {x13 : Int32} {a19 : Nat} {a20 : Nat} {x23 : Int32} {a24 : Nat} {x26 : Int32} {x27 : Int32} {x28 : Int32} {w : MW} : mX d 169 1033 [.ref a0, .ref a1, mJ, .ref a3, .int x4, .int x5, .int x6, .int x7, mJ, mJ, mJ, .int x11, .int x12, .int x13, mJ, mJ, mJ, mJ, mJ, .ref a19, .ref a20, mJ, mJ, .int x23, .ref a24, mJ, .int x26, .int x27, .int x28, mJ, mJ, mJ] [] w = (if ¬ x27 = (nI 1) then mX d 169 1060 [.ref a0, .ref a1, mJ, .ref a3, .int x4, .int x5, .int x6, .int x7, mJ, mJ, mJ, .int x11, .int x12, .int x13, mJ, mJ, mJ, mJ, mJ, .ref a19, .ref a20, mJ, mJ, .int x23, .ref a24, mJ, .int x26, .int x27, .int x28, mJ, mJ, mJ] [] w else mX d 169 1039 [.ref a0, .ref a1, mJ, .ref a3, .int x4, .int x5, .int x6, .int x7, mJ, mJ, mJ, .int x11, .int x12, .int x13, mJ, mJ, mJ, mJ, mJ, .ref a19, .ref a20, mJ, mJ, .int x23, .ref a24, mJ, .int x26, .int x27, .int x28, mJ, mJ, mJ] [] w) := by
  refine Eq.trans (X_st f_169_1033 rfl rfl) ?_
  refine Eq.trans (X_iconst f_169_1035 kc_i_1) ?_
  refine Eq.trans (X_br f_169_1036 rfl rfl) ?_
  exact mIte_eq (mX_maskK lm_169_1060 rfl) (mX_maskK lm_169_1039 rfl)
theorem b_169_1039 {d : Nat} {a0 : Nat} {a1 : Nat} {a3 : Nat} {x4 : Int32} {x5 : Int32} {x6 : Int32} {x7 : Int32} {x11 : Int32} {x12 : Int32} {x13 : Int32} {a19 : Nat} {a20 : Nat} {x23 : Int32} {a24 : Nat} {x26 : Int32} {x27 : Int32} {x28 : Nat} {w : MW} (h0 : mTg w a24 = 50) (h1 : x28 < 2147483648) (h2 : x28 < mLn w a24) : mX d 169 1039 [.ref a0, .ref a1, mJ, .ref a3, .int x4, .int x5, .int x6, .int x7, mJ, mJ, mJ, .int x11, .int x12, .int x13, mJ, mJ, mJ, mJ, mJ, .ref a19, .ref a20, mJ, mJ, .int x23, .ref a24, mJ, .int x26, .int x27, .int (nI x28), mJ, mJ, mJ] [] w = (if ¬ (mI w a24 x28) = (nI 1) then mX d 169 1060 [.ref a0, .ref a1, mJ, .ref a3, .int x4, .int x5, .int x6, .int x7, mJ, mJ, mJ, .int x11, .int x12, .int x13, mJ, mJ, mJ, mJ, mJ, .ref a19, .ref a20, mJ, mJ, .int x23, .ref a24, mJ, .int x26, .int x27, .int (nI x28), mJ, mJ, mJ] [] w else mX d 169 1048 [.ref a0, .ref a1, mJ, .ref a3, .int x4, .int x5, .int x6, .int x7, mJ, mJ, mJ, .int x11, .int x12, .int x13, mJ, mJ, mJ, mJ, mJ, .ref a19, .ref a20, mJ, mJ, .int x23, .ref a24, mJ, .int x26, .int x27, .int (nI x28), mJ, mJ, mJ] [] w) := by
  refine Eq.trans (X_st f_169_1039 rfl rfl) ?_
  refine Eq.trans (X_st f_169_1041 rfl rfl) ?_
  refine Eq.trans (X_iald f_169_1043 h0 (jnn h1) (jcl h1) h2) ?_
  refine Eq.trans (X_iconst f_169_1044 kc_i_1) ?_
  refine Eq.trans (X_br f_169_1045 rfl rfl) ?_
  exact mIte_eq (mX_maskK lm_169_1060 rfl) (mX_maskK lm_169_1048 rfl)
theorem b_169_1048 {d : Nat} {a0 : Nat} {a1 : Nat} {a3 : Nat} {x4 : Int32} {x5 : Int32} {x6 : Int32} {x7 : Int32} {x11 : Int32} {x12 : Int32} {x13 : Int32} {a19 : Nat} {a20 : Nat} {x23 : Int32} {a24 : Nat} {x26 : Int32} {x27 : Int32} {x28 : Int32} {w : MW} (h0 : mTg w a1 = 9) : mX (d + 1) 169 1048 [.ref a0, .ref a1, mJ, .ref a3, .int x4, .int x5, .int x6, .int x7, mJ, mJ, mJ, .int x11, .int x12, .int x13, mJ, mJ, mJ, mJ, mJ, .ref a19, .ref a20, mJ, mJ, .int x23, .ref a24, mJ, .int x26, .int x27, .int x28, mJ, mJ, mJ] [] w = mThen (mK d 103 [.ref a1, .int x28, .int (nI 0)] w) (fun v w9 => mX (d + 1) 169 1055 [.ref a0, .ref a1, mJ, .ref a3, .int x4, .int x5, .int x6, .int x7, mJ, mJ, mJ, .int x11, .int x12, .int x13, mJ, mJ, mJ, mJ, mJ, .ref a19, .ref a20, mJ, mJ, .int x23, .ref a24, mJ, .int x26, .int x27, .int x28, mJ, mJ, mJ] (v.toList ++ []) w9) := by
  refine Eq.trans (X_st f_169_1048 rfl rfl) ?_
  refine Eq.trans (X_st f_169_1049 rfl rfl) ?_
  refine Eq.trans (X_iconst f_169_1051 kc_i_0) ?_
  refine Eq.trans (X_call f_169_1052 (by decide) rfl rfl rfl rfl rfl rfl (Nat.le_of_ble_eq_true rfl) (Nat.le_of_ble_eq_true rfl) (decide_eq_true h0) (Nat.le_of_ble_eq_true rfl)) ?_
  exact mThen_eq fun v w9 => mX_maskK lm_169_1055 rfl
theorem b_169_1055 {d : Nat} {a0 : Nat} {a1 : Nat} {a3 : Nat} {x4 : Int32} {x5 : Int32} {x6 : Int32} {x7 : Int32} {x11 : Int32} {x12 : Int32} {x13 : Int32} {a19 : Nat} {a20 : Nat} {x23 : Int32} {a24 : Nat} {x26 : Int32} {x27 : Int32} {x28 : Int32} {y0 : Int32} {w : MW} : mX d 169 1055 [.ref a0, .ref a1, mJ, .ref a3, .int x4, .int x5, .int x6, .int x7, mJ, mJ, mJ, .int x11, .int x12, .int x13, mJ, mJ, mJ, mJ, mJ, .ref a19, .ref a20, mJ, mJ, .int x23, .ref a24, mJ, .int x26, .int x27, .int x28, mJ, mJ, mJ] [.int y0] w = (if y0 = nI 0 then mX d 169 1060 [.ref a0, .ref a1, mJ, .ref a3, .int x4, .int x5, .int x6, .int x7, mJ, mJ, mJ, .int x11, .int x12, .int x13, mJ, mJ, mJ, mJ, mJ, .ref a19, .ref a20, mJ, mJ, .int x23, .ref a24, mJ, .int x26, .int x27, .int x28, mJ, mJ, mJ] [] w else mX d 169 1058 [mJ, mJ, mJ, mJ, mJ, mJ, mJ, mJ, mJ, mJ, mJ, mJ, mJ, mJ, mJ, mJ, mJ, mJ, mJ, mJ, mJ, mJ, mJ, mJ, mJ, mJ, mJ, mJ, mJ, mJ, mJ, mJ] [] w) := by
  refine Eq.trans (X_br f_169_1055 rfl rfl) ?_
  exact mIte_eq (mX_maskK lm_169_1060 rfl) (mX_maskK lm_169_1058 rfl)
theorem b_169_1058 {d : Nat} {w : MW} : mX d 169 1058 [mJ, mJ, mJ, mJ, mJ, mJ, mJ, mJ, mJ, mJ, mJ, mJ, mJ, mJ, mJ, mJ, mJ, mJ, mJ, mJ, mJ, mJ, mJ, mJ, mJ, mJ, mJ, mJ, mJ, mJ, mJ, mJ] [] w = some (.inl (some (.int (nI 0))), w) := by
  refine Eq.trans (X_iconst f_169_1058 kc_i_0) ?_
  exact X_ireturn f_169_1059 rfl
theorem b_169_1060 {d : Nat} {a0 : Nat} {a1 : Nat} {a3 : Nat} {x4 : Int32} {x5 : Int32} {x6 : Int32} {x7 : Int32} {x11 : Int32} {x12 : Int32} {x13 : Int32} {a19 : Nat} {a20 : Nat} {x23 : Int32} {a24 : Nat} {x26 : Int32} {x27 : Int32} {x28 : Int32} {w : MW} : mX d 169 1060 [.ref a0, .ref a1, mJ, .ref a3, .int x4, .int x5, .int x6, .int x7, mJ, mJ, mJ, .int x11, .int x12, .int x13, mJ, mJ, mJ, mJ, mJ, .ref a19, .ref a20, mJ, mJ, .int x23, .ref a24, mJ, .int x26, .int x27, .int x28, mJ, mJ, mJ] [] w = mX d 169 1063 [.ref a0, .ref a1, mJ, .ref a3, .int x4, .int x5, .int x6, .int x7, mJ, mJ, mJ, .int x11, .int x12, .int x13, mJ, mJ, mJ, mJ, mJ, .ref a19, .ref a20, mJ, mJ, .int x23, .ref a24, mJ, .int x26, .int x27, .int x28, mJ, mJ, .int (nI 0)] [] w := by
  refine Eq.trans (X_iconst f_169_1060 kc_i_0) ?_
  refine Eq.trans (X_istore (L' := [.ref a0, .ref a1, mJ, .ref a3, .int x4, .int x5, .int x6, .int x7, mJ, mJ, mJ, .int x11, .int x12, .int x13, mJ, mJ, mJ, mJ, mJ, .ref a19, .ref a20, mJ, mJ, .int x23, .ref a24, mJ, .int x26, .int x27, .int x28, mJ, mJ, .int (nI 0)]) f_169_1061 (Nat.le_of_ble_eq_true rfl) rfl) ?_
  exact mX_maskK lm_169_1063 rfl
theorem b_169_1063 {d : Nat} {a0 : Nat} {a1 : Nat} {a3 : Nat} {x4 : Int32} {x5 : Int32} {x6 : Int32} {x7 : Int32} {x11 : Int32} {x12 : Int32} {x13 : Int32} {a19 : Nat} {a20 : Nat} {x23 : Int32} {a24 : Nat} {x26 : Int32} {x27 : Int32} {x28 : Int32} {x31 : Int32} {w : MW} : mX d 169 1063 [.ref a0, .ref a1, mJ, .ref a3, .int x4, .int x5, .int x6, .int x7, mJ, mJ, mJ, .int x11, .int x12, .int x13, mJ, mJ, mJ, mJ, mJ, .ref a19, .ref a20, mJ, mJ, .int x23, .ref a24, mJ, .int x26, .int x27, .int x28, mJ, mJ, .int x31] [] w = (if x5 ≤ x31 then mX d 169 1111 [.ref a0, .ref a1, mJ, .ref a3, .int x4, .int x5, .int x6, .int x7, mJ, mJ, mJ, .int x11, .int x12, .int x13, mJ, mJ, mJ, mJ, mJ, .ref a19, .ref a20, mJ, mJ, .int x23, .ref a24, mJ, .int x26, .int x27, .int x28, mJ, mJ, mJ] [] w else mX d 169 1070 [.ref a0, .ref a1, mJ, .ref a3, .int x4, .int x5, .int x6, .int x7, mJ, mJ, mJ, .int x11, .int x12, .int x13, mJ, mJ, mJ, mJ, mJ, .ref a19, .ref a20, mJ, mJ, .int x23, .ref a24, mJ, .int x26, .int x27, .int x28, mJ, mJ, .int x31] [] w) := by
  refine Eq.trans (X_st f_169_1063 rfl rfl) ?_
  refine Eq.trans (X_st f_169_1065 rfl rfl) ?_
  refine Eq.trans (X_br f_169_1067 rfl rfl) ?_
  exact mIte_eq (mX_maskK lm_169_1111 rfl) (mX_maskK lm_169_1070 rfl)
theorem b_169_1070 {d : Nat} {a0 : Nat} {a1 : Nat} {a3 : Nat} {x4 : Int32} {x5 : Int32} {x6 : Int32} {x7 : Int32} {x11 : Int32} {x12 : Int32} {x13 : Int32} {a19 : Nat} {a20 : Nat} {x23 : Int32} {a24 : Nat} {x26 : Int32} {x27 : Int32} {x28 : Int32} {x31 : Int32} {w : MW} (h0 : mTg w a1 = 9) : mX (d + 1) 169 1070 [.ref a0, .ref a1, mJ, .ref a3, .int x4, .int x5, .int x6, .int x7, mJ, mJ, mJ, .int x11, .int x12, .int x13, mJ, mJ, mJ, mJ, mJ, .ref a19, .ref a20, mJ, mJ, .int x23, .ref a24, mJ, .int x26, .int x27, .int x28, mJ, mJ, .int x31] [] w = mThen (mK d 106 [.ref a1, .int x28, .int x31] w) (fun v w9 => mX (d + 1) 169 1078 [.ref a0, .ref a1, mJ, .ref a3, .int x4, .int x5, .int x6, .int x7, mJ, mJ, mJ, .int x11, .int x12, .int x13, mJ, mJ, mJ, mJ, mJ, .ref a19, .ref a20, mJ, mJ, .int x23, .ref a24, mJ, .int x26, .int x27, .int x28, mJ, mJ, .int x31] (v.toList ++ []) w9) := by
  refine Eq.trans (X_st f_169_1070 rfl rfl) ?_
  refine Eq.trans (X_st f_169_1071 rfl rfl) ?_
  refine Eq.trans (X_st f_169_1073 rfl rfl) ?_
  refine Eq.trans (X_call f_169_1075 (by decide) rfl rfl rfl rfl rfl rfl (Nat.le_of_ble_eq_true rfl) (Nat.le_of_ble_eq_true rfl) (decide_eq_true h0) (Nat.le_of_ble_eq_true rfl)) ?_
  exact mThen_eq fun v w9 => mX_maskK lm_169_1078 rfl
theorem b_169_1078 {d : Nat} {a0 : Nat} {a1 : Nat} {a3 : Nat} {x4 : Int32} {x5 : Int32} {x6 : Int32} {x7 : Int32} {x11 : Int32} {x12 : Int32} {x13 : Int32} {a19 : Nat} {a20 : Nat} {x23 : Int32} {a24 : Nat} {x26 : Int32} {x27 : Int32} {x28 : Nat} {x31 : Nat} {y0 : Int32} {w : MW} (h0 : 52 ≤ mTg w a20 ∧ mTg w a20 < 55) (h1 : x28 < 2147483648) (h2 : x28 < mLn w a20) (h3 : mR w a20 x28 = some (gR w a20 x28)) (h4 : mTg w (gR w a20 x28) = 50) (h5 : x31 < 2147483648) (h6 : x31 < mLn w (gR w a20 x28)) : mX d 169 1078 [.ref a0, .ref a1, mJ, .ref a3, .int x4, .int x5, .int x6, .int x7, mJ, mJ, mJ, .int x11, .int x12, .int x13, mJ, mJ, mJ, mJ, mJ, .ref a19, .ref a20, mJ, mJ, .int x23, .ref a24, mJ, .int x26, .int x27, .int (nI x28), mJ, mJ, .int (nI x31)] [.int y0] w = (if (mI w (gR w a20 x28) x31) ≤ y0 then mX d 169 1105 [.ref a0, .ref a1, mJ, .ref a3, .int x4, .int x5, .int x6, .int x7, mJ, mJ, mJ, .int x11, .int x12, .int x13, mJ, mJ, mJ, mJ, mJ, .ref a19, .ref a20, mJ, mJ, .int x23, .ref a24, mJ, .int x26, .int x27, .int (nI x28), mJ, mJ, .int (nI x31)] [] w else mX d 169 1089 [.ref a0, .ref a1, mJ, .ref a3, .int x4, .int x5, .int x6, .int x7, mJ, mJ, mJ, .int x11, .int x12, .int x13, mJ, mJ, mJ, mJ, mJ, .ref a19, .ref a20, mJ, mJ, .int x23, .ref a24, mJ, .int x26, .int x27, .int (nI x28), mJ, mJ, .int (nI x31)] [] w) := by
  refine Eq.trans (X_st f_169_1078 rfl rfl) ?_
  refine Eq.trans (X_st f_169_1080 rfl rfl) ?_
  refine Eq.trans (X_aald f_169_1082 h0 (jnn h1) (jcl h1) h2 h3) ?_
  refine Eq.trans (X_st f_169_1083 rfl rfl) ?_
  refine Eq.trans (X_iald f_169_1085 h4 (jnn h5) (jcl h5) h6) ?_
  refine Eq.trans (X_br f_169_1086 rfl rfl) ?_
  exact mIte_eq (mX_maskK lm_169_1105 rfl) (mX_maskK lm_169_1089 rfl)
theorem b_169_1089 {d : Nat} {a0 : Nat} {a1 : Nat} {a3 : Nat} {x4 : Int32} {x5 : Int32} {x6 : Int32} {x7 : Int32} {x11 : Int32} {x12 : Int32} {x13 : Int32} {a19 : Nat} {a20 : Nat} {x23 : Int32} {a24 : Nat} {x26 : Int32} {x27 : Int32} {x28 : Int32} {x31 : Int32} {w : MW} : mX d 169 1089 [.ref a0, .ref a1, mJ, .ref a3, .int x4, .int x5, .int x6, .int x7, mJ, mJ, mJ, .int x11, .int x12, .int x13, mJ, mJ, mJ, mJ, mJ, .ref a19, .ref a20, mJ, mJ, .int x23, .ref a24, mJ, .int x26, .int x27, .int x28, mJ, mJ, .int x31] [] w = (if ¬ x28 = x12 then mX d 169 1103 [mJ, mJ, mJ, mJ, mJ, mJ, mJ, mJ, mJ, mJ, mJ, mJ, mJ, mJ, mJ, mJ, mJ, mJ, mJ, mJ, mJ, mJ, mJ, mJ, mJ, mJ, mJ, mJ, mJ, mJ, mJ, mJ] [] w else mX d 169 1096 [.ref a0, .ref a1, mJ, .ref a3, .int x4, .int x5, .int x6, .int x7, mJ, mJ, mJ, .int x11, .int x12, .int x13, mJ, mJ, mJ, mJ, mJ, .ref a19, .ref a20, mJ, mJ, .int x23, .ref a24, mJ, .int x26, .int x27, .int x28, mJ, mJ, .int x31] [] w) := by
  refine Eq.trans (X_st f_169_1089 rfl rfl) ?_
  refine Eq.trans (X_st f_169_1091 rfl rfl) ?_
  refine Eq.trans (X_br f_169_1093 rfl rfl) ?_
  exact mIte_eq (mX_maskK lm_169_1103 rfl) (mX_maskK lm_169_1096 rfl)
theorem b_169_1096 {d : Nat} {a0 : Nat} {a1 : Nat} {a3 : Nat} {x4 : Int32} {x5 : Int32} {x6 : Int32} {x7 : Int32} {x11 : Int32} {x12 : Int32} {x13 : Int32} {a19 : Nat} {a20 : Nat} {x23 : Int32} {a24 : Nat} {x26 : Int32} {x27 : Int32} {x28 : Int32} {x31 : Int32} {w : MW} : mX d 169 1096 [.ref a0, .ref a1, mJ, .ref a3, .int x4, .int x5, .int x6, .int x7, mJ, mJ, mJ, .int x11, .int x12, .int x13, mJ, mJ, mJ, mJ, mJ, .ref a19, .ref a20, mJ, mJ, .int x23, .ref a24, mJ, .int x26, .int x27, .int x28, mJ, mJ, .int x31] [] w = (if x31 = x13 then mX d 169 1105 [.ref a0, .ref a1, mJ, .ref a3, .int x4, .int x5, .int x6, .int x7, mJ, mJ, mJ, .int x11, .int x12, .int x13, mJ, mJ, mJ, mJ, mJ, .ref a19, .ref a20, mJ, mJ, .int x23, .ref a24, mJ, .int x26, .int x27, .int x28, mJ, mJ, .int x31] [] w else mX d 169 1103 [mJ, mJ, mJ, mJ, mJ, mJ, mJ, mJ, mJ, mJ, mJ, mJ, mJ, mJ, mJ, mJ, mJ, mJ, mJ, mJ, mJ, mJ, mJ, mJ, mJ, mJ, mJ, mJ, mJ, mJ, mJ, mJ] [] w) := by
  refine Eq.trans (X_st f_169_1096 rfl rfl) ?_
  refine Eq.trans (X_st f_169_1098 rfl rfl) ?_
  refine Eq.trans (X_br f_169_1100 rfl rfl) ?_
  exact mIte_eq (mX_maskK lm_169_1105 rfl) (mX_maskK lm_169_1103 rfl)
theorem b_169_1103 {d : Nat} {w : MW} : mX d 169 1103 [mJ, mJ, mJ, mJ, mJ, mJ, mJ, mJ, mJ, mJ, mJ, mJ, mJ, mJ, mJ, mJ, mJ, mJ, mJ, mJ, mJ, mJ, mJ, mJ, mJ, mJ, mJ, mJ, mJ, mJ, mJ, mJ] [] w = some (.inl (some (.int (nI 0))), w) := by
  refine Eq.trans (X_iconst f_169_1103 kc_i_0) ?_
  exact X_ireturn f_169_1104 rfl
theorem b_169_1105 {d : Nat} {a0 : Nat} {a1 : Nat} {a3 : Nat} {x4 : Int32} {x5 : Int32} {x6 : Int32} {x7 : Int32} {x11 : Int32} {x12 : Int32} {x13 : Int32} {a19 : Nat} {a20 : Nat} {x23 : Int32} {a24 : Nat} {x26 : Int32} {x27 : Int32} {x28 : Int32} {x31 : Int32} {w : MW} : mX d 169 1105 [.ref a0, .ref a1, mJ, .ref a3, .int x4, .int x5, .int x6, .int x7, mJ, mJ, mJ, .int x11, .int x12, .int x13, mJ, mJ, mJ, mJ, mJ, .ref a19, .ref a20, mJ, mJ, .int x23, .ref a24, mJ, .int x26, .int x27, .int x28, mJ, mJ, .int x31] [] w = mX d 169 1063 [.ref a0, .ref a1, mJ, .ref a3, .int x4, .int x5, .int x6, .int x7, mJ, mJ, mJ, .int x11, .int x12, .int x13, mJ, mJ, mJ, mJ, mJ, .ref a19, .ref a20, mJ, mJ, .int x23, .ref a24, mJ, .int x26, .int x27, .int x28, mJ, mJ, .int (x31 + (nI 1))] [] w := by
  refine Eq.trans (X_iinc f_169_1105 kc_i_1 rfl rfl) ?_
  refine Eq.trans (X_st f_169_1108 rfl rfl) ?_
  exact mX_maskK lm_169_1063 rfl
theorem b_169_1111 {d : Nat} {a0 : Nat} {a1 : Nat} {a3 : Nat} {x4 : Int32} {x5 : Int32} {x6 : Int32} {x7 : Int32} {x11 : Int32} {x12 : Int32} {x13 : Int32} {a19 : Nat} {a20 : Nat} {x23 : Int32} {a24 : Nat} {x26 : Int32} {x27 : Int32} {x28 : Int32} {w : MW} : mX d 169 1111 [.ref a0, .ref a1, mJ, .ref a3, .int x4, .int x5, .int x6, .int x7, mJ, mJ, mJ, .int x11, .int x12, .int x13, mJ, mJ, mJ, mJ, mJ, .ref a19, .ref a20, mJ, mJ, .int x23, .ref a24, mJ, .int x26, .int x27, .int x28, mJ, mJ, mJ] [] w = mX d 169 912 [.ref a0, .ref a1, mJ, .ref a3, .int x4, .int x5, .int x6, .int x7, mJ, mJ, mJ, .int x11, .int x12, .int x13, mJ, mJ, mJ, mJ, mJ, .ref a19, .ref a20, mJ, mJ, .int x23, .ref a24, mJ, .int x26, .int x27, .int (x28 + (nI 1)), mJ, mJ, mJ] [] w := by
  refine Eq.trans (X_iinc f_169_1111 kc_i_1 rfl rfl) ?_
  refine Eq.trans (X_st f_169_1114 rfl rfl) ?_
  exact mX_maskK lm_169_912 rfl
theorem b_169_1117 {d : Nat} {a0 : Nat} {a1 : Nat} {a3 : Nat} {x4 : Int32} {x5 : Int32} {x6 : Int32} {x7 : Int32} {x11 : Int32} {x12 : Int32} {x23 : Int32} {x26 : Int32} {x27 : Int32} {w : MW} : mX d 169 1117 [.ref a0, .ref a1, mJ, .ref a3, .int x4, .int x5, .int x6, .int x7, mJ, mJ, mJ, .int x11, .int x12, mJ, mJ, mJ, mJ, mJ, mJ, mJ, mJ, mJ, mJ, .int x23, mJ, mJ, .int x26, .int x27, mJ, mJ, mJ, mJ] [] w = (if x12 < nI 0 then mX d 169 1136 [.ref a0, .ref a1, mJ, .ref a3, .int x4, .int x5, .int x6, .int x7, mJ, mJ, mJ, .int x11, mJ, mJ, mJ, mJ, mJ, mJ, mJ, mJ, mJ, mJ, mJ, .int x23, mJ, mJ, mJ, .int x27, mJ, mJ, mJ, mJ] [] w else mX d 169 1122 [.ref a0, .ref a1, mJ, .ref a3, .int x4, .int x5, .int x6, .int x7, mJ, mJ, mJ, .int x11, .int x12, mJ, mJ, mJ, mJ, mJ, mJ, mJ, mJ, mJ, mJ, .int x23, mJ, mJ, .int x26, .int x27, mJ, mJ, mJ, mJ] [] w) := by
  refine Eq.trans (X_st f_169_1117 rfl rfl) ?_
  refine Eq.trans (X_br f_169_1119 rfl rfl) ?_
  exact mIte_eq (mX_maskK lm_169_1136 rfl) (mX_maskK lm_169_1122 rfl)
theorem b_169_1122 {d : Nat} {a0 : Nat} {a1 : Nat} {a3 : Nat} {x4 : Int32} {x5 : Int32} {x6 : Int32} {x7 : Int32} {x11 : Int32} {x12 : Int32} {x23 : Int32} {x26 : Int32} {x27 : Int32} {w : MW} (h0 : mTg w a1 = 9) : mX (d + 1) 169 1122 [.ref a0, .ref a1, mJ, .ref a3, .int x4, .int x5, .int x6, .int x7, mJ, mJ, mJ, .int x11, .int x12, mJ, mJ, mJ, mJ, mJ, mJ, mJ, mJ, mJ, mJ, .int x23, mJ, mJ, .int x26, .int x27, mJ, mJ, mJ, mJ] [] w = mThen (mK d 105 [.ref a1, .int x12, .int (nI 0)] w) (fun v w9 => mX (d + 1) 169 1129 [.ref a0, .ref a1, mJ, .ref a3, .int x4, .int x5, .int x6, .int x7, mJ, mJ, mJ, .int x11, mJ, mJ, mJ, mJ, mJ, mJ, mJ, mJ, mJ, mJ, mJ, .int x23, mJ, mJ, .int x26, .int x27, mJ, mJ, mJ, mJ] (v.toList ++ []) w9) := by
  refine Eq.trans (X_st f_169_1122 rfl rfl) ?_
  refine Eq.trans (X_st f_169_1123 rfl rfl) ?_
  refine Eq.trans (X_iconst f_169_1125 kc_i_0) ?_
  refine Eq.trans (X_call f_169_1126 (by decide) rfl rfl rfl rfl rfl rfl (Nat.le_of_ble_eq_true rfl) (Nat.le_of_ble_eq_true rfl) (decide_eq_true h0) (Nat.le_of_ble_eq_true rfl)) ?_
  exact mThen_eq fun v w9 => mX_maskK lm_169_1129 rfl
theorem b_169_1129 {d : Nat} {a0 : Nat} {a1 : Nat} {a3 : Nat} {x4 : Int32} {x5 : Int32} {x6 : Int32} {x7 : Int32} {x11 : Int32} {x23 : Int32} {x26 : Int32} {x27 : Int32} {y0 : Int32} {w : MW} : mX d 169 1129 [.ref a0, .ref a1, mJ, .ref a3, .int x4, .int x5, .int x6, .int x7, mJ, mJ, mJ, .int x11, mJ, mJ, mJ, mJ, mJ, mJ, mJ, mJ, mJ, mJ, mJ, .int x23, mJ, mJ, .int x26, .int x27, mJ, mJ, mJ, mJ] [.int y0] w = (if x26 ≤ y0 then mX d 169 1136 [.ref a0, .ref a1, mJ, .ref a3, .int x4, .int x5, .int x6, .int x7, mJ, mJ, mJ, .int x11, mJ, mJ, mJ, mJ, mJ, mJ, mJ, mJ, mJ, mJ, mJ, .int x23, mJ, mJ, mJ, .int x27, mJ, mJ, mJ, mJ] [] w else mX d 169 1134 [mJ, mJ, mJ, mJ, mJ, mJ, mJ, mJ, mJ, mJ, mJ, mJ, mJ, mJ, mJ, mJ, mJ, mJ, mJ, mJ, mJ, mJ, mJ, mJ, mJ, mJ, mJ, mJ, mJ, mJ, mJ, mJ] [] w) := by
  refine Eq.trans (X_st f_169_1129 rfl rfl) ?_
  refine Eq.trans (X_br f_169_1131 rfl rfl) ?_
  exact mIte_eq (mX_maskK lm_169_1136 rfl) (mX_maskK lm_169_1134 rfl)
theorem b_169_1134 {d : Nat} {w : MW} : mX d 169 1134 [mJ, mJ, mJ, mJ, mJ, mJ, mJ, mJ, mJ, mJ, mJ, mJ, mJ, mJ, mJ, mJ, mJ, mJ, mJ, mJ, mJ, mJ, mJ, mJ, mJ, mJ, mJ, mJ, mJ, mJ, mJ, mJ] [] w = some (.inl (some (.int (nI 0))), w) := by
  refine Eq.trans (X_iconst f_169_1134 kc_i_0) ?_
  exact X_ireturn f_169_1135 rfl
theorem b_169_1136 {d : Nat} {a0 : Nat} {a1 : Nat} {a3 : Nat} {x4 : Int32} {x5 : Int32} {x6 : Int32} {x7 : Int32} {x11 : Int32} {x23 : Int32} {x27 : Int32} {w : MW} (h0 : mTg w a1 = 9) : mX (d + 1) 169 1136 [.ref a0, .ref a1, mJ, .ref a3, .int x4, .int x5, .int x6, .int x7, mJ, mJ, mJ, .int x11, mJ, mJ, mJ, mJ, mJ, mJ, mJ, mJ, mJ, mJ, mJ, .int x23, mJ, mJ, mJ, .int x27, mJ, mJ, mJ, mJ] [] w = mThen (mK d 114 [.ref a1] w) (fun v w9 => mX (d + 1) 169 1140 [.ref a0, .ref a1, mJ, .ref a3, .int x4, .int x5, .int x6, .int x7, mJ, mJ, mJ, .int x11, mJ, mJ, mJ, mJ, mJ, mJ, mJ, mJ, mJ, mJ, mJ, .int x23, mJ, mJ, mJ, .int x27, mJ, mJ, mJ, mJ] (v.toList ++ []) w9) := by
  refine Eq.trans (X_st f_169_1136 rfl rfl) ?_
  refine Eq.trans (X_call f_169_1137 (by decide) rfl rfl rfl rfl rfl rfl (Nat.le_of_ble_eq_true rfl) (Nat.le_of_ble_eq_true rfl) (decide_eq_true h0) (Nat.le_of_ble_eq_true rfl)) ?_
  exact mThen_eq fun v w9 => mX_maskK lm_169_1140 rfl
theorem b_169_1140 {d : Nat} {a0 : Nat} {a1 : Nat} {a3 : Nat} {x4 : Int32} {x5 : Int32} {x6 : Int32} {x7 : Int32} {x11 : Int32} {x23 : Int32} {x27 : Int32} {y0 : Int32} {w : MW} : mX d 169 1140 [.ref a0, .ref a1, mJ, .ref a3, .int x4, .int x5, .int x6, .int x7, mJ, mJ, mJ, .int x11, mJ, mJ, mJ, mJ, mJ, mJ, mJ, mJ, mJ, mJ, mJ, .int x23, mJ, mJ, mJ, .int x27, mJ, mJ, mJ, mJ] [.int y0] w = (if y0 = x23 then mX d 169 1147 [.ref a0, .ref a1, mJ, .ref a3, .int x4, .int x5, .int x6, .int x7, mJ, mJ, mJ, .int x11, mJ, mJ, mJ, mJ, mJ, mJ, mJ, mJ, mJ, mJ, mJ, mJ, mJ, mJ, mJ, .int x27, mJ, mJ, mJ, mJ] [] w else mX d 169 1145 [mJ, mJ, mJ, mJ, mJ, mJ, mJ, mJ, mJ, mJ, mJ, mJ, mJ, mJ, mJ, mJ, mJ, mJ, mJ, mJ, mJ, mJ, mJ, mJ, mJ, mJ, mJ, mJ, mJ, mJ, mJ, mJ] [] w) := by
  refine Eq.trans (X_st f_169_1140 rfl rfl) ?_
  refine Eq.trans (X_br f_169_1142 rfl rfl) ?_
  exact mIte_eq (mX_maskK lm_169_1147 rfl) (mX_maskK lm_169_1145 rfl)
theorem b_169_1145 {d : Nat} {w : MW} : mX d 169 1145 [mJ, mJ, mJ, mJ, mJ, mJ, mJ, mJ, mJ, mJ, mJ, mJ, mJ, mJ, mJ, mJ, mJ, mJ, mJ, mJ, mJ, mJ, mJ, mJ, mJ, mJ, mJ, mJ, mJ, mJ, mJ, mJ] [] w = some (.inl (some (.int (nI 0))), w) := by
  refine Eq.trans (X_iconst f_169_1145 kc_i_0) ?_
  exact X_ireturn f_169_1146 rfl
theorem b_169_1147 {d : Nat} {a0 : Nat} {a1 : Nat} {a3 : Nat} {x4 : Int32} {x5 : Int32} {x6 : Int32} {x7 : Int32} {x11 : Int32} {x27 : Int32} {w : MW} : mX d 169 1147 [.ref a0, .ref a1, mJ, .ref a3, .int x4, .int x5, .int x6, .int x7, mJ, mJ, mJ, .int x11, mJ, mJ, mJ, mJ, mJ, mJ, mJ, mJ, mJ, mJ, mJ, mJ, mJ, mJ, mJ, .int x27, mJ, mJ, mJ, mJ] [] w = (if ¬ x27 = (nI 1) then mX d 169 1204 [.ref a0, .ref a1, mJ, .ref a3, .int x4, .int x5, .int x6, .int x7, mJ, mJ, mJ, mJ, mJ, mJ, mJ, mJ, mJ, mJ, mJ, mJ, mJ, mJ, mJ, mJ, mJ, mJ, mJ, mJ, mJ, mJ, mJ, mJ] [] w else mX d 169 1153 [.ref a0, .ref a1, mJ, .ref a3, .int x4, .int x5, .int x6, .int x7, mJ, mJ, mJ, .int x11, mJ, mJ, mJ, mJ, mJ, mJ, mJ, mJ, mJ, mJ, mJ, mJ, mJ, mJ, mJ, mJ, mJ, mJ, mJ, mJ] [] w) := by
  refine Eq.trans (X_st f_169_1147 rfl rfl) ?_
  refine Eq.trans (X_iconst f_169_1149 kc_i_1) ?_
  refine Eq.trans (X_br f_169_1150 rfl rfl) ?_
  exact mIte_eq (mX_maskK lm_169_1204 rfl) (mX_maskK lm_169_1153 rfl)
theorem b_169_1153 {d : Nat} {a0 : Nat} {a1 : Nat} {a3 : Nat} {x4 : Int32} {x5 : Int32} {x6 : Int32} {x7 : Int32} {x11 : Int32} {w : MW} (h0 : mTg w a1 = 9) : mX (d + 1) 169 1153 [.ref a0, .ref a1, mJ, .ref a3, .int x4, .int x5, .int x6, .int x7, mJ, mJ, mJ, .int x11, mJ, mJ, mJ, mJ, mJ, mJ, mJ, mJ, mJ, mJ, mJ, mJ, mJ, mJ, mJ, mJ, mJ, mJ, mJ, mJ] [] w = mThen (mK d 99 [.ref a1, .int (nI 7)] w) (fun v w9 => mX (d + 1) 169 1159 [.ref a0, .ref a1, mJ, .ref a3, .int x4, .int x5, .int x6, .int x7, mJ, mJ, mJ, .int x11, mJ, mJ, mJ, mJ, mJ, mJ, mJ, mJ, mJ, mJ, mJ, mJ, mJ, mJ, mJ, mJ, mJ, mJ, mJ, mJ] (v.toList ++ []) w9) := by
  refine Eq.trans (X_st f_169_1153 rfl rfl) ?_
  refine Eq.trans (X_bipush f_169_1154 kc_b_7) ?_
  refine Eq.trans (X_call f_169_1156 (by decide) rfl rfl rfl rfl rfl rfl (Nat.le_of_ble_eq_true rfl) (Nat.le_of_ble_eq_true rfl) (decide_eq_true h0) (Nat.le_of_ble_eq_true rfl)) ?_
  exact mThen_eq fun v w9 => mX_maskK lm_169_1159 rfl
theorem b_169_1159 {d : Nat} {a0 : Nat} {a1 : Nat} {a3 : Nat} {x4 : Int32} {x5 : Int32} {x6 : Int32} {x7 : Int32} {x11 : Int32} {y0 : Int32} {w : MW} : mX d 169 1159 [.ref a0, .ref a1, mJ, .ref a3, .int x4, .int x5, .int x6, .int x7, mJ, mJ, mJ, .int x11, mJ, mJ, mJ, mJ, mJ, mJ, mJ, mJ, mJ, mJ, mJ, mJ, mJ, mJ, mJ, mJ, mJ, mJ, mJ, mJ] [.int y0] w = (if y0 ≤ x11 then mX d 169 1204 [.ref a0, .ref a1, mJ, .ref a3, .int x4, .int x5, .int x6, .int x7, mJ, mJ, mJ, mJ, mJ, mJ, mJ, mJ, mJ, mJ, mJ, mJ, mJ, mJ, mJ, mJ, mJ, mJ, mJ, mJ, mJ, mJ, mJ, mJ] [] w else mX d 169 1164 [.ref a0, .ref a1, mJ, .ref a3, .int x4, .int x5, .int x6, .int x7, mJ, mJ, mJ, mJ, mJ, mJ, mJ, mJ, mJ, mJ, mJ, mJ, mJ, mJ, mJ, mJ, mJ, mJ, mJ, mJ, mJ, mJ, mJ, mJ] [] w) := by
  refine Eq.trans (X_st f_169_1159 rfl rfl) ?_
  refine Eq.trans (X_br f_169_1161 rfl rfl) ?_
  exact mIte_eq (mX_maskK lm_169_1204 rfl) (mX_maskK lm_169_1164 rfl)
theorem b_169_1164 {d : Nat} {a0 : Nat} {a1 : Nat} {a3 : Nat} {x4 : Int32} {x5 : Int32} {x6 : Int32} {x7 : Int32} {w : MW} (h0 : mTg w a1 = 9) : mX (d + 1) 169 1164 [.ref a0, .ref a1, mJ, .ref a3, .int x4, .int x5, .int x6, .int x7, mJ, mJ, mJ, mJ, mJ, mJ, mJ, mJ, mJ, mJ, mJ, mJ, mJ, mJ, mJ, mJ, mJ, mJ, mJ, mJ, mJ, mJ, mJ, mJ] [] w = mThen (mK d 99 [.ref a1, .int (nI 10)] w) (fun v w9 => mX (d + 1) 169 1170 [.ref a0, .ref a1, mJ, .ref a3, .int x4, .int x5, .int x6, .int x7, mJ, mJ, mJ, mJ, mJ, mJ, mJ, mJ, mJ, mJ, mJ, mJ, mJ, mJ, mJ, mJ, mJ, mJ, mJ, mJ, mJ, mJ, mJ, mJ] (v.toList ++ []) w9) := by
  refine Eq.trans (X_st f_169_1164 rfl rfl) ?_
  refine Eq.trans (X_bipush f_169_1165 kc_b_10) ?_
  refine Eq.trans (X_call f_169_1167 (by decide) rfl rfl rfl rfl rfl rfl (Nat.le_of_ble_eq_true rfl) (Nat.le_of_ble_eq_true rfl) (decide_eq_true h0) (Nat.le_of_ble_eq_true rfl)) ?_
  exact mThen_eq fun v w9 => mX_maskK lm_169_1170 rfl
theorem b_169_1170 {d : Nat} {a0 : Nat} {a1 : Nat} {a3 : Nat} {x4 : Int32} {x5 : Int32} {x6 : Int32} {x7 : Int32} {y0 : Int32} {w : MW} : mX d 169 1170 [.ref a0, .ref a1, mJ, .ref a3, .int x4, .int x5, .int x6, .int x7, mJ, mJ, mJ, mJ, mJ, mJ, mJ, mJ, mJ, mJ, mJ, mJ, mJ, mJ, mJ, mJ, mJ, mJ, mJ, mJ, mJ, mJ, mJ, mJ] [.int y0] w = (if (nI 2) ≤ y0 then mX d 169 1176 [.ref a0, .ref a1, mJ, .ref a3, .int x4, .int x5, .int x6, .int x7, mJ, mJ, mJ, mJ, mJ, mJ, mJ, mJ, mJ, mJ, mJ, mJ, mJ, mJ, mJ, mJ, mJ, mJ, mJ, mJ, mJ, mJ, mJ, mJ] [] w else mX d 169 1174 [mJ, mJ, mJ, mJ, mJ, mJ, mJ, mJ, mJ, mJ, mJ, mJ, mJ, mJ, mJ, mJ, mJ, mJ, mJ, mJ, mJ, mJ, mJ, mJ, mJ, mJ, mJ, mJ, mJ, mJ, mJ, mJ] [] w) := by
  refine Eq.trans (X_iconst f_169_1170 kc_i_2) ?_
  refine Eq.trans (X_br f_169_1171 rfl rfl) ?_
  exact mIte_eq (mX_maskK lm_169_1176 rfl) (mX_maskK lm_169_1174 rfl)
theorem b_169_1174 {d : Nat} {w : MW} : mX d 169 1174 [mJ, mJ, mJ, mJ, mJ, mJ, mJ, mJ, mJ, mJ, mJ, mJ, mJ, mJ, mJ, mJ, mJ, mJ, mJ, mJ, mJ, mJ, mJ, mJ, mJ, mJ, mJ, mJ, mJ, mJ, mJ, mJ] [] w = some (.inl (some (.int (nI 0))), w) := by
  refine Eq.trans (X_iconst f_169_1174 kc_i_0) ?_
  exact X_ireturn f_169_1175 rfl
theorem b_169_1176 {d : Nat} {a0 : Nat} {a1 : Nat} {a3 : Nat} {x4 : Int32} {x5 : Int32} {x6 : Int32} {x7 : Int32} {w : MW} : mX d 169 1176 [.ref a0, .ref a1, mJ, .ref a3, .int x4, .int x5, .int x6, .int x7, mJ, mJ, mJ, mJ, mJ, mJ, mJ, mJ, mJ, mJ, mJ, mJ, mJ, mJ, mJ, mJ, mJ, mJ, mJ, mJ, mJ, mJ, mJ, mJ] [] w = mX d 169 1179 [.ref a0, .ref a1, mJ, .ref a3, .int x4, .int x5, .int x6, .int x7, mJ, mJ, mJ, mJ, mJ, mJ, mJ, mJ, mJ, mJ, mJ, mJ, mJ, mJ, mJ, mJ, mJ, mJ, mJ, mJ, .int (nI 0), mJ, mJ, mJ] [] w := by
  refine Eq.trans (X_iconst f_169_1176 kc_i_0) ?_
  refine Eq.trans (X_istore (L' := [.ref a0, .ref a1, mJ, .ref a3, .int x4, .int x5, .int x6, .int x7, mJ, mJ, mJ, mJ, mJ, mJ, mJ, mJ, mJ, mJ, mJ, mJ, mJ, mJ, mJ, mJ, mJ, mJ, mJ, mJ, .int (nI 0), mJ, mJ, mJ]) f_169_1177 (Nat.le_of_ble_eq_true rfl) rfl) ?_
  exact mX_maskK lm_169_1179 rfl
theorem b_169_1179 {d : Nat} {a0 : Nat} {a1 : Nat} {a3 : Nat} {x4 : Int32} {x5 : Int32} {x6 : Int32} {x7 : Int32} {x28 : Int32} {w : MW} : mX d 169 1179 [.ref a0, .ref a1, mJ, .ref a3, .int x4, .int x5, .int x6, .int x7, mJ, mJ, mJ, mJ, mJ, mJ, mJ, mJ, mJ, mJ, mJ, mJ, mJ, mJ, mJ, mJ, mJ, mJ, mJ, mJ, .int x28, mJ, mJ, mJ] [] w = (if x4 ≤ x28 then mX d 169 1204 [.ref a0, .ref a1, mJ, .ref a3, .int x4, .int x5, .int x6, .int x7, mJ, mJ, mJ, mJ, mJ, mJ, mJ, mJ, mJ, mJ, mJ, mJ, mJ, mJ, mJ, mJ, mJ, mJ, mJ, mJ, mJ, mJ, mJ, mJ] [] w else mX d 169 1186 [.ref a0, .ref a1, mJ, .ref a3, .int x4, .int x5, .int x6, .int x7, mJ, mJ, mJ, mJ, mJ, mJ, mJ, mJ, mJ, mJ, mJ, mJ, mJ, mJ, mJ, mJ, mJ, mJ, mJ, mJ, .int x28, mJ, mJ, mJ] [] w) := by
  refine Eq.trans (X_st f_169_1179 rfl rfl) ?_
  refine Eq.trans (X_st f_169_1181 rfl rfl) ?_
  refine Eq.trans (X_br f_169_1183 rfl rfl) ?_
  exact mIte_eq (mX_maskK lm_169_1204 rfl) (mX_maskK lm_169_1186 rfl)
theorem b_169_1186 {d : Nat} {a0 : Nat} {a1 : Nat} {a3 : Nat} {x4 : Int32} {x5 : Int32} {x6 : Int32} {x7 : Int32} {x28 : Int32} {w : MW} (h0 : mTg w a1 = 9) : mX (d + 1) 169 1186 [.ref a0, .ref a1, mJ, .ref a3, .int x4, .int x5, .int x6, .int x7, mJ, mJ, mJ, mJ, mJ, mJ, mJ, mJ, mJ, mJ, mJ, mJ, mJ, mJ, mJ, mJ, mJ, mJ, mJ, mJ, .int x28, mJ, mJ, mJ] [] w = mThen (mK d 103 [.ref a1, .int x28, .int (nI 2)] w) (fun v w9 => mX (d + 1) 169 1193 [.ref a0, .ref a1, mJ, .ref a3, .int x4, .int x5, .int x6, .int x7, mJ, mJ, mJ, mJ, mJ, mJ, mJ, mJ, mJ, mJ, mJ, mJ, mJ, mJ, mJ, mJ, mJ, mJ, mJ, mJ, .int x28, mJ, mJ, mJ] (v.toList ++ []) w9) := by
  refine Eq.trans (X_st f_169_1186 rfl rfl) ?_
  refine Eq.trans (X_st f_169_1187 rfl rfl) ?_
  refine Eq.trans (X_iconst f_169_1189 kc_i_2) ?_
  refine Eq.trans (X_call f_169_1190 (by decide) rfl rfl rfl rfl rfl rfl (Nat.le_of_ble_eq_true rfl) (Nat.le_of_ble_eq_true rfl) (decide_eq_true h0) (Nat.le_of_ble_eq_true rfl)) ?_
  exact mThen_eq fun v w9 => mX_maskK lm_169_1193 rfl
theorem b_169_1193 {d : Nat} {a0 : Nat} {a1 : Nat} {a3 : Nat} {x4 : Int32} {x5 : Int32} {x6 : Int32} {x7 : Int32} {x28 : Int32} {y0 : Int32} {w : MW} : mX d 169 1193 [.ref a0, .ref a1, mJ, .ref a3, .int x4, .int x5, .int x6, .int x7, mJ, mJ, mJ, mJ, mJ, mJ, mJ, mJ, mJ, mJ, mJ, mJ, mJ, mJ, mJ, mJ, mJ, mJ, mJ, mJ, .int x28, mJ, mJ, mJ] [.int y0] w = (if y0 = nI 0 then mX d 169 1198 [.ref a0, .ref a1, mJ, .ref a3, .int x4, .int x5, .int x6, .int x7, mJ, mJ, mJ, mJ, mJ, mJ, mJ, mJ, mJ, mJ, mJ, mJ, mJ, mJ, mJ, mJ, mJ, mJ, mJ, mJ, .int x28, mJ, mJ, mJ] [] w else mX d 169 1196 [mJ, mJ, mJ, mJ, mJ, mJ, mJ, mJ, mJ, mJ, mJ, mJ, mJ, mJ, mJ, mJ, mJ, mJ, mJ, mJ, mJ, mJ, mJ, mJ, mJ, mJ, mJ, mJ, mJ, mJ, mJ, mJ] [] w) := by
  refine Eq.trans (X_br f_169_1193 rfl rfl) ?_
  exact mIte_eq (mX_maskK lm_169_1198 rfl) (mX_maskK lm_169_1196 rfl)
theorem b_169_1196 {d : Nat} {w : MW} : mX d 169 1196 [mJ, mJ, mJ, mJ, mJ, mJ, mJ, mJ, mJ, mJ, mJ, mJ, mJ, mJ, mJ, mJ, mJ, mJ, mJ, mJ, mJ, mJ, mJ, mJ, mJ, mJ, mJ, mJ, mJ, mJ, mJ, mJ] [] w = some (.inl (some (.int (nI 0))), w) := by
  refine Eq.trans (X_iconst f_169_1196 kc_i_0) ?_
  exact X_ireturn f_169_1197 rfl
theorem b_169_1198 {d : Nat} {a0 : Nat} {a1 : Nat} {a3 : Nat} {x4 : Int32} {x5 : Int32} {x6 : Int32} {x7 : Int32} {x28 : Int32} {w : MW} : mX d 169 1198 [.ref a0, .ref a1, mJ, .ref a3, .int x4, .int x5, .int x6, .int x7, mJ, mJ, mJ, mJ, mJ, mJ, mJ, mJ, mJ, mJ, mJ, mJ, mJ, mJ, mJ, mJ, mJ, mJ, mJ, mJ, .int x28, mJ, mJ, mJ] [] w = mX d 169 1179 [.ref a0, .ref a1, mJ, .ref a3, .int x4, .int x5, .int x6, .int x7, mJ, mJ, mJ, mJ, mJ, mJ, mJ, mJ, mJ, mJ, mJ, mJ, mJ, mJ, mJ, mJ, mJ, mJ, mJ, mJ, .int (x28 + (nI 1)), mJ, mJ, mJ] [] w := by
  refine Eq.trans (X_iinc f_169_1198 kc_i_1 rfl rfl) ?_
  refine Eq.trans (X_st f_169_1201 rfl rfl) ?_
  exact mX_maskK lm_169_1179 rfl
theorem b_169_1204 {d : Nat} {a0 : Nat} {a1 : Nat} {a3 : Nat} {x4 : Int32} {x5 : Int32} {x6 : Int32} {x7 : Int32} {w : MW} : mX d 169 1204 [.ref a0, .ref a1, mJ, .ref a3, .int x4, .int x5, .int x6, .int x7, mJ, mJ, mJ, mJ, mJ, mJ, mJ, mJ, mJ, mJ, mJ, mJ, mJ, mJ, mJ, mJ, mJ, mJ, mJ, mJ, mJ, mJ, mJ, mJ] [] w = mX d 169 59 [.ref a0, .ref a1, mJ, .ref a3, .int x4, .int x5, .int x6, .int (x7 + (nI 1)), mJ, mJ, mJ, mJ, mJ, mJ, mJ, mJ, mJ, mJ, mJ, mJ, mJ, mJ, mJ, mJ, mJ, mJ, mJ, mJ, mJ, mJ, mJ, mJ] [] w := by
  refine Eq.trans (X_iinc f_169_1204 kc_i_1 rfl rfl) ?_
  refine Eq.trans (X_st f_169_1207 rfl rfl) ?_
  exact mX_maskK lm_169_59 rfl
theorem b_169_1210 {d : Nat} {a1 : Nat} {a3 : Nat} {w : MW} (h0 : mTg w a3 = 10) : mX (d + 1) 169 1210 [mJ, .ref a1, mJ, .ref a3, mJ, mJ, mJ, mJ, mJ, mJ, mJ, mJ, mJ, mJ, mJ, mJ, mJ, mJ, mJ, mJ, mJ, mJ, mJ, mJ, mJ, mJ, mJ, mJ, mJ, mJ, mJ, mJ] [] w = mThen (mK d 147 [.ref a3, .ref a1] w) (fun v w9 => mX (d + 1) 169 1215 [mJ, mJ, mJ, mJ, mJ, mJ, mJ, mJ, mJ, mJ, mJ, mJ, mJ, mJ, mJ, mJ, mJ, mJ, mJ, mJ, mJ, mJ, mJ, mJ, mJ, mJ, mJ, mJ, mJ, mJ, mJ, mJ] (v.toList ++ []) w9) := by
  refine Eq.trans (X_st f_169_1210 rfl rfl) ?_
  refine Eq.trans (X_st f_169_1211 rfl rfl) ?_
  refine Eq.trans (X_call f_169_1212 (by decide) rfl rfl rfl rfl rfl rfl (Nat.le_of_ble_eq_true rfl) (Nat.le_of_ble_eq_true rfl) (decide_eq_true h0) (Nat.le_of_ble_eq_true rfl)) ?_
  exact mThen_eq fun v w9 => mX_maskK lm_169_1215 rfl
theorem b_169_1215 {d : Nat} {y0 : Int32} {w : MW} (h0 : mRk 2 y0 = true) : mX d 169 1215 [mJ, mJ, mJ, mJ, mJ, mJ, mJ, mJ, mJ, mJ, mJ, mJ, mJ, mJ, mJ, mJ, mJ, mJ, mJ, mJ, mJ, mJ, mJ, mJ, mJ, mJ, mJ, mJ, mJ, mJ, mJ, mJ] [.int y0] w = some (.inl (some (.int y0)), w) := by
  exact X_ireturn f_169_1215 h0
