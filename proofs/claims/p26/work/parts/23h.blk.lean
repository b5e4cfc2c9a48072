/-! ===== BLOCKS: by program (wip/p26/blk.py) ===== -/
/-! BeeTurnpikeLaw list ([ILjava/lang/StringBuilder;)LBeeTurnpikeLaw$Sim; -/
theorem f_167_0 : mFetch 167 0 = some (.new 90, 3, [10, 1321]) := by decide +kernel
theorem f_167_3 : mFetch 167 3 = some (.dup, 1, []) := by decide +kernel
theorem f_167_4 : mFetch 167 4 = some (.invokespecial 92, 3, [126, 1, 6, 0, 119, 1323]) := by decide +kernel
theorem f_167_7 : mFetch 167 7 = some (.astore_n 2, 1, []) := by decide +kernel
theorem f_167_8 : mFetch 167 8 = some (.aload_n 2, 1, []) := by decide +kernel
theorem f_167_9 : mFetch 167 9 = some (.iconst 1, 1, []) := by decide +kernel
theorem f_167_10 : mFetch 167 10 = some (.aload_n 0, 1, []) := by decide +kernel
theorem f_167_11 : mFetch 167 11 = some (.iconst 0, 1, []) := by decide +kernel
theorem f_167_12 : mFetch 167 12 = some (.invokestatic 93, 3, [164, 2, 0, 0, 934, 935]) := by decide +kernel
theorem f_167_15 : mFetch 167 15 = some (.iconst 3, 1, []) := by decide +kernel
theorem f_167_16 : mFetch 167 16 = some (.invokestatic 99, 3, [163, 2, 0, 0, 1395, 1396]) := by decide +kernel
theorem f_167_19 : mFetch 167 19 = some (.iadd, 1, []) := by decide +kernel
theorem f_167_20 : mFetch 167 20 = some (.newarray .int, 2, [50]) := by decide +kernel
theorem f_167_22 : mFetch 167 22 = some (.putfield 103, 3, [10, 8, 0, 1339]) := by decide +kernel
theorem f_167_25 : mFetch 167 25 = some (.iconst 0, 1, []) := by decide +kernel
theorem f_167_26 : mFetch 167 26 = some (.istore_n 3, 1, []) := by decide +kernel
theorem f_167_27 : mFetch 167 27 = some (.iload_n 3, 1, []) := by decide +kernel
theorem f_167_28 : mFetch 167 28 = some (.aload_n 2, 1, []) := by decide +kernel
theorem f_167_29 : mFetch 167 29 = some (.getfield 103, 3, [10, 8, 0, 1339]) := by decide +kernel
theorem f_167_32 : mFetch 167 32 = some (.arraylength, 1, []) := by decide +kernel
theorem f_167_33 : mFetch 167 33 = some (.if_icmp .ge 71, 3, [104]) := by decide +kernel
theorem f_167_36 : mFetch 167 36 = some (.aload_n 2, 1, []) := by decide +kernel
theorem f_167_37 : mFetch 167 37 = some (.getfield 103, 3, [10, 8, 0, 1339]) := by decide +kernel
theorem f_167_40 : mFetch 167 40 = some (.iload_n 3, 1, []) := by decide +kernel
theorem f_167_41 : mFetch 167 41 = some (.aload_n 0, 1, []) := by decide +kernel
theorem f_167_42 : mFetch 167 42 = some (.iconst 0, 1, []) := by decide +kernel
theorem f_167_43 : mFetch 167 43 = some (.invokestatic 93, 3, [164, 2, 0, 0, 934, 935]) := by decide +kernel
theorem f_167_46 : mFetch 167 46 = some (.iconst 3, 1, []) := by decide +kernel
theorem f_167_47 : mFetch 167 47 = some (.iload_n 3, 1, []) := by decide +kernel
theorem f_167_48 : mFetch 167 48 = some (.imul, 1, []) := by decide +kernel
theorem f_167_49 : mFetch 167 49 = some (.iconst 2, 1, []) := by decide +kernel
theorem f_167_50 : mFetch 167 50 = some (.iadd, 1, []) := by decide +kernel
theorem f_167_51 : mFetch 167 51 = some (.ishr, 1, []) := by decide +kernel
theorem f_167_52 : mFetch 167 52 = some (.iconst 5, 1, []) := by decide +kernel
theorem f_167_53 : mFetch 167 53 = some (.invokestatic 99, 3, [163, 2, 0, 0, 1395, 1396]) := by decide +kernel
theorem f_167_56 : mFetch 167 56 = some (.iastore, 1, []) := by decide +kernel
theorem f_167_57 : mFetch 167 57 = some (.aload_n 1, 1, []) := by decide +kernel
theorem f_167_58 : mFetch 167 58 = some (.ldc 107, 2, [1, 114]) := by decide +kernel
theorem f_167_60 : mFetch 167 60 = some (.invokevirtual 37, 3, [159, 2, 2, 12, 1400, 1401, 1402]) := by decide +kernel
theorem f_167_63 : mFetch 167 63 = some (.iload_n 3, 1, []) := by decide +kernel
theorem f_167_64 : mFetch 167 64 = some (.invokevirtual 41, 3, [160, 2, 2, 12, 1495, 1496, 1497]) := by decide +kernel
theorem f_167_67 : mFetch 167 67 = some (.ldc 109, 2, [1, 116]) := by decide +kernel
theorem f_167_69 : mFetch 167 69 = some (.invokevirtual 37, 3, [159, 2, 2, 12, 1400, 1401, 1402]) := by decide +kernel
theorem f_167_72 : mFetch 167 72 = some (.aload_n 2, 1, []) := by decide +kernel
theorem f_167_73 : mFetch 167 73 = some (.getfield 103, 3, [10, 8, 0, 1339]) := by decide +kernel
theorem f_167_76 : mFetch 167 76 = some (.iload_n 3, 1, []) := by decide +kernel
theorem f_167_77 : mFetch 167 77 = some (.iaload, 1, []) := by decide +kernel
theorem f_167_78 : mFetch 167 78 = some (.invokevirtual 41, 3, [160, 2, 2, 12, 1495, 1496, 1497]) := by decide +kernel
theorem f_167_81 : mFetch 167 81 = some (.iload_n 3, 1, []) := by decide +kernel
theorem f_167_82 : mFetch 167 82 = some (.iconst 2, 1, []) := by decide +kernel
theorem f_167_83 : mFetch 167 83 = some (.irem, 1, []) := by decide +kernel
theorem f_167_84 : mFetch 167 84 = some (.ifCond .ne 8, 3, [92]) := by decide +kernel
theorem f_167_87 : mFetch 167 87 = some (.ldc 111, 2, [1, 118]) := by decide +kernel
theorem f_167_89 : mFetch 167 89 = some (.goto 5, 3, [94]) := by decide +kernel
theorem f_167_92 : mFetch 167 92 = some (.ldc 113, 2, [1, 120]) := by decide +kernel
theorem f_167_94 : mFetch 167 94 = some (.invokevirtual 37, 3, [159, 2, 2, 12, 1400, 1401, 1402]) := by decide +kernel
theorem f_167_97 : mFetch 167 97 = some (.pop, 1, []) := by decide +kernel
theorem f_167_98 : mFetch 167 98 = some (.iinc 3 1, 3, []) := by decide +kernel
theorem f_167_101 : mFetch 167 101 = some (.goto (-74), 3, [27]) := by decide +kernel
theorem f_167_104 : mFetch 167 104 = some (.aload_n 2, 1, []) := by decide +kernel
theorem f_167_105 : mFetch 167 105 = some (.iconst 2, 1, []) := by decide +kernel
theorem f_167_106 : mFetch 167 106 = some (.aload_n 0, 1, []) := by decide +kernel
theorem f_167_107 : mFetch 167 107 = some (.iconst 1, 1, []) := by decide +kernel
theorem f_167_108 : mFetch 167 108 = some (.invokestatic 93, 3, [164, 2, 0, 0, 934, 935]) := by decide +kernel
theorem f_167_111 : mFetch 167 111 = some (.iconst 5, 1, []) := by decide +kernel
theorem f_167_112 : mFetch 167 112 = some (.invokestatic 99, 3, [163, 2, 0, 0, 1395, 1396]) := by decide +kernel
theorem f_167_115 : mFetch 167 115 = some (.iadd, 1, []) := by decide +kernel
theorem f_167_116 : mFetch 167 116 = some (.anewarray 115, 3, [52, 1523]) := by decide +kernel
theorem f_167_119 : mFetch 167 119 = some (.putfield 116, 3, [10, 9, 0, 1341]) := by decide +kernel
theorem f_167_122 : mFetch 167 122 = some (.iconst 0, 1, []) := by decide +kernel
theorem f_167_123 : mFetch 167 123 = some (.istore_n 3, 1, []) := by decide +kernel
theorem f_167_124 : mFetch 167 124 = some (.iload_n 3, 1, []) := by decide +kernel
theorem f_167_125 : mFetch 167 125 = some (.aload_n 2, 1, []) := by decide +kernel
theorem f_167_126 : mFetch 167 126 = some (.getfield 116, 3, [10, 9, 0, 1341]) := by decide +kernel
theorem f_167_129 : mFetch 167 129 = some (.arraylength, 1, []) := by decide +kernel
theorem f_167_130 : mFetch 167 130 = some (.if_icmp .ge 134, 3, [264]) := by decide +kernel
theorem f_167_133 : mFetch 167 133 = some (.aload_n 0, 1, []) := by decide +kernel
theorem f_167_134 : mFetch 167 134 = some (.iconst 1, 1, []) := by decide +kernel
theorem f_167_135 : mFetch 167 135 = some (.invokestatic 93, 3, [164, 2, 0, 0, 934, 935]) := by decide +kernel
theorem f_167_138 : mFetch 167 138 = some (.iconst 2, 1, []) := by decide +kernel
theorem f_167_139 : mFetch 167 139 = some (.iconst 3, 1, []) := by decide +kernel
theorem f_167_140 : mFetch 167 140 = some (.iload_n 3, 1, []) := by decide +kernel
theorem f_167_141 : mFetch 167 141 = some (.imul, 1, []) := by decide +kernel
theorem f_167_142 : mFetch 167 142 = some (.iadd, 1, []) := by decide +kernel
theorem f_167_143 : mFetch 167 143 = some (.ishr, 1, []) := by decide +kernel
theorem f_167_144 : mFetch 167 144 = some (.istore 4, 2, []) := by decide +kernel
theorem f_167_146 : mFetch 167 146 = some (.aload_n 2, 1, []) := by decide +kernel
theorem f_167_147 : mFetch 167 147 = some (.getfield 116, 3, [10, 9, 0, 1341]) := by decide +kernel
theorem f_167_150 : mFetch 167 150 = some (.iload_n 3, 1, []) := by decide +kernel
theorem f_167_151 : mFetch 167 151 = some (.iconst 3, 1, []) := by decide +kernel
theorem f_167_152 : mFetch 167 152 = some (.newarray .int, 2, [50]) := by decide +kernel
theorem f_167_154 : mFetch 167 154 = some (.dup, 1, []) := by decide +kernel
theorem f_167_155 : mFetch 167 155 = some (.iconst 0, 1, []) := by decide +kernel
theorem f_167_156 : mFetch 167 156 = some (.iload 4, 2, []) := by decide +kernel
theorem f_167_158 : mFetch 167 158 = some (.aload_n 2, 1, []) := by decide +kernel
theorem f_167_159 : mFetch 167 159 = some (.getfield 103, 3, [10, 8, 0, 1339]) := by decide +kernel
theorem f_167_162 : mFetch 167 162 = some (.arraylength, 1, []) := by decide +kernel
theorem f_167_163 : mFetch 167 163 = some (.invokestatic 99, 3, [163, 2, 0, 0, 1395, 1396]) := by decide +kernel
theorem f_167_166 : mFetch 167 166 = some (.iastore, 1, []) := by decide +kernel
theorem f_167_167 : mFetch 167 167 = some (.dup, 1, []) := by decide +kernel
theorem f_167_168 : mFetch 167 168 = some (.iconst 1, 1, []) := by decide +kernel
theorem f_167_169 : mFetch 167 169 = some (.iconst 1, 1, []) := by decide +kernel
theorem f_167_170 : mFetch 167 170 = some (.iload 4, 2, []) := by decide +kernel
theorem f_167_172 : mFetch 167 172 = some (.iconst 2, 1, []) := by decide +kernel
theorem f_167_173 : mFetch 167 173 = some (.ishr, 1, []) := by decide +kernel
theorem f_167_174 : mFetch 167 174 = some (.bipush 9, 2, []) := by decide +kernel
theorem f_167_176 : mFetch 167 176 = some (.invokestatic 99, 3, [163, 2, 0, 0, 1395, 1396]) := by decide +kernel
theorem f_167_179 : mFetch 167 179 = some (.iadd, 1, []) := by decide +kernel
theorem f_167_180 : mFetch 167 180 = some (.iastore, 1, []) := by decide +kernel
theorem f_167_181 : mFetch 167 181 = some (.dup, 1, []) := by decide +kernel
theorem f_167_182 : mFetch 167 182 = some (.iconst 2, 1, []) := by decide +kernel
theorem f_167_183 : mFetch 167 183 = some (.iload 4, 2, []) := by decide +kernel
theorem f_167_185 : mFetch 167 185 = some (.iconst 1, 1, []) := by decide +kernel
theorem f_167_186 : mFetch 167 186 = some (.ishr, 1, []) := by decide +kernel
theorem f_167_187 : mFetch 167 187 = some (.bipush 8, 2, []) := by decide +kernel
theorem f_167_189 : mFetch 167 189 = some (.invokestatic 99, 3, [163, 2, 0, 0, 1395, 1396]) := by decide +kernel
theorem f_167_192 : mFetch 167 192 = some (.iastore, 1, []) := by decide +kernel
theorem f_167_193 : mFetch 167 193 = some (.aastore, 1, []) := by decide +kernel
theorem f_167_194 : mFetch 167 194 = some (.aload_n 1, 1, []) := by decide +kernel
theorem f_167_195 : mFetch 167 195 = some (.ldc 120, 2, [1, 122]) := by decide +kernel
theorem f_167_197 : mFetch 167 197 = some (.invokevirtual 37, 3, [159, 2, 2, 12, 1400, 1401, 1402]) := by decide +kernel
theorem f_167_200 : mFetch 167 200 = some (.iload_n 3, 1, []) := by decide +kernel
theorem f_167_201 : mFetch 167 201 = some (.invokevirtual 41, 3, [160, 2, 2, 12, 1495, 1496, 1497]) := by decide +kernel
theorem f_167_204 : mFetch 167 204 = some (.ldc 122, 2, [1, 124]) := by decide +kernel
theorem f_167_206 : mFetch 167 206 = some (.invokevirtual 37, 3, [159, 2, 2, 12, 1400, 1401, 1402]) := by decide +kernel
theorem f_167_209 : mFetch 167 209 = some (.aload_n 2, 1, []) := by decide +kernel
theorem f_167_210 : mFetch 167 210 = some (.getfield 116, 3, [10, 9, 0, 1341]) := by decide +kernel
theorem f_167_213 : mFetch 167 213 = some (.iload_n 3, 1, []) := by decide +kernel
theorem f_167_214 : mFetch 167 214 = some (.aaload, 1, []) := by decide +kernel
theorem f_167_215 : mFetch 167 215 = some (.iconst 0, 1, []) := by decide +kernel
theorem f_167_216 : mFetch 167 216 = some (.iaload, 1, []) := by decide +kernel
theorem f_167_217 : mFetch 167 217 = some (.invokevirtual 41, 3, [160, 2, 2, 12, 1495, 1496, 1497]) := by decide +kernel
theorem f_167_220 : mFetch 167 220 = some (.ldc 124, 2, [1, 126]) := by decide +kernel
theorem f_167_222 : mFetch 167 222 = some (.invokevirtual 37, 3, [159, 2, 2, 12, 1400, 1401, 1402]) := by decide +kernel
theorem f_167_225 : mFetch 167 225 = some (.aload_n 2, 1, []) := by decide +kernel
theorem f_167_226 : mFetch 167 226 = some (.getfield 116, 3, [10, 9, 0, 1341]) := by decide +kernel
theorem f_167_229 : mFetch 167 229 = some (.iload_n 3, 1, []) := by decide +kernel
theorem f_167_230 : mFetch 167 230 = some (.aaload, 1, []) := by decide +kernel
theorem f_167_231 : mFetch 167 231 = some (.iconst 1, 1, []) := by decide +kernel
theorem f_167_232 : mFetch 167 232 = some (.iaload, 1, []) := by decide +kernel
theorem f_167_233 : mFetch 167 233 = some (.invokevirtual 41, 3, [160, 2, 2, 12, 1495, 1496, 1497]) := by decide +kernel
theorem f_167_236 : mFetch 167 236 = some (.ldc 126, 2, [1, 128]) := by decide +kernel
theorem f_167_238 : mFetch 167 238 = some (.invokevirtual 37, 3, [159, 2, 2, 12, 1400, 1401, 1402]) := by decide +kernel
theorem f_167_241 : mFetch 167 241 = some (.aload_n 2, 1, []) := by decide +kernel
theorem f_167_242 : mFetch 167 242 = some (.getfield 116, 3, [10, 9, 0, 1341]) := by decide +kernel
theorem f_167_245 : mFetch 167 245 = some (.iload_n 3, 1, []) := by decide +kernel
theorem f_167_246 : mFetch 167 246 = some (.aaload, 1, []) := by decide +kernel
theorem f_167_247 : mFetch 167 247 = some (.iconst 2, 1, []) := by decide +kernel
theorem f_167_248 : mFetch 167 248 = some (.iaload, 1, []) := by decide +kernel
theorem f_167_249 : mFetch 167 249 = some (.invokevirtual 41, 3, [160, 2, 2, 12, 1495, 1496, 1497]) := by decide +kernel
theorem f_167_252 : mFetch 167 252 = some (.ldc 111, 2, [1, 118]) := by decide +kernel
theorem f_167_254 : mFetch 167 254 = some (.invokevirtual 37, 3, [159, 2, 2, 12, 1400, 1401, 1402]) := by decide +kernel
theorem f_167_257 : mFetch 167 257 = some (.pop, 1, []) := by decide +kernel
theorem f_167_258 : mFetch 167 258 = some (.iinc 3 1, 3, []) := by decide +kernel
theorem f_167_261 : mFetch 167 261 = some (.goto (-137), 3, [124]) := by decide +kernel
theorem f_167_264 : mFetch 167 264 = some (.aload_n 2, 1, []) := by decide +kernel
theorem f_167_265 : mFetch 167 265 = some (.iconst 2, 1, []) := by decide +kernel
theorem f_167_266 : mFetch 167 266 = some (.aload_n 0, 1, []) := by decide +kernel
theorem f_167_267 : mFetch 167 267 = some (.iconst 2, 1, []) := by decide +kernel
theorem f_167_268 : mFetch 167 268 = some (.invokestatic 93, 3, [164, 2, 0, 0, 934, 935]) := by decide +kernel
theorem f_167_271 : mFetch 167 271 = some (.iconst 5, 1, []) := by decide +kernel
theorem f_167_272 : mFetch 167 272 = some (.invokestatic 99, 3, [163, 2, 0, 0, 1395, 1396]) := by decide +kernel
theorem f_167_275 : mFetch 167 275 = some (.iadd, 1, []) := by decide +kernel
theorem f_167_276 : mFetch 167 276 = some (.anewarray 115, 3, [52, 1523]) := by decide +kernel
theorem f_167_279 : mFetch 167 279 = some (.putfield 128, 3, [10, 10, 0, 1343]) := by decide +kernel
theorem f_167_282 : mFetch 167 282 = some (.aload_n 2, 1, []) := by decide +kernel
theorem f_167_283 : mFetch 167 283 = some (.aload_n 2, 1, []) := by decide +kernel
theorem f_167_284 : mFetch 167 284 = some (.getfield 128, 3, [10, 10, 0, 1343]) := by decide +kernel
theorem f_167_287 : mFetch 167 287 = some (.arraylength, 1, []) := by decide +kernel
theorem f_167_288 : mFetch 167 288 = some (.iconst 2, 1, []) := by decide +kernel
theorem f_167_289 : mFetch 167 289 = some (.multianewarray 131 2, 4, [1528]) := by decide +kernel
theorem f_167_293 : mFetch 167 293 = some (.putfield 132, 3, [10, 11, 0, 1345]) := by decide +kernel
theorem f_167_296 : mFetch 167 296 = some (.iconst 0, 1, []) := by decide +kernel
theorem f_167_297 : mFetch 167 297 = some (.istore_n 3, 1, []) := by decide +kernel
theorem f_167_298 : mFetch 167 298 = some (.iload_n 3, 1, []) := by decide +kernel
theorem f_167_299 : mFetch 167 299 = some (.aload_n 2, 1, []) := by decide +kernel
theorem f_167_300 : mFetch 167 300 = some (.getfield 128, 3, [10, 10, 0, 1343]) := by decide +kernel
theorem f_167_303 : mFetch 167 303 = some (.arraylength, 1, []) := by decide +kernel
theorem f_167_304 : mFetch 167 304 = some (.if_icmp .ge 137, 3, [441]) := by decide +kernel
theorem f_167_307 : mFetch 167 307 = some (.aload_n 0, 1, []) := by decide +kernel
theorem f_167_308 : mFetch 167 308 = some (.iconst 2, 1, []) := by decide +kernel
theorem f_167_309 : mFetch 167 309 = some (.invokestatic 93, 3, [164, 2, 0, 0, 934, 935]) := by decide +kernel
theorem f_167_312 : mFetch 167 312 = some (.iconst 2, 1, []) := by decide +kernel
theorem f_167_313 : mFetch 167 313 = some (.iconst 3, 1, []) := by decide +kernel
theorem f_167_314 : mFetch 167 314 = some (.iload_n 3, 1, []) := by decide +kernel
theorem f_167_315 : mFetch 167 315 = some (.imul, 1, []) := by decide +kernel
theorem f_167_316 : mFetch 167 316 = some (.iadd, 1, []) := by decide +kernel
theorem f_167_317 : mFetch 167 317 = some (.ishr, 1, []) := by decide +kernel
theorem f_167_318 : mFetch 167 318 = some (.istore 4, 2, []) := by decide +kernel
theorem f_167_320 : mFetch 167 320 = some (.aload_n 2, 1, []) := by decide +kernel
theorem f_167_321 : mFetch 167 321 = some (.getfield 128, 3, [10, 10, 0, 1343]) := by decide +kernel
theorem f_167_324 : mFetch 167 324 = some (.iload_n 3, 1, []) := by decide +kernel
theorem f_167_325 : mFetch 167 325 = some (.iconst 1, 1, []) := by decide +kernel
theorem f_167_326 : mFetch 167 326 = some (.iload 4, 2, []) := by decide +kernel
theorem f_167_328 : mFetch 167 328 = some (.iconst 1, 1, []) := by decide +kernel
theorem f_167_329 : mFetch 167 329 = some (.iload 4, 2, []) := by decide +kernel
theorem f_167_331 : mFetch 167 331 = some (.iconst 3, 1, []) := by decide +kernel
theorem f_167_332 : mFetch 167 332 = some (.ishr, 1, []) := by decide +kernel
theorem f_167_333 : mFetch 167 333 = some (.iconst 4, 1, []) := by decide +kernel
theorem f_167_334 : mFetch 167 334 = some (.invokestatic 99, 3, [163, 2, 0, 0, 1395, 1396]) := by decide +kernel
theorem f_167_337 : mFetch 167 337 = some (.iadd, 1, []) := by decide +kernel
theorem f_167_338 : mFetch 167 338 = some (.invokestatic 99, 3, [163, 2, 0, 0, 1395, 1396]) := by decide +kernel
theorem f_167_341 : mFetch 167 341 = some (.iadd, 1, []) := by decide +kernel
theorem f_167_342 : mFetch 167 342 = some (.newarray .int, 2, [50]) := by decide +kernel
theorem f_167_344 : mFetch 167 344 = some (.aastore, 1, []) := by decide +kernel
theorem f_167_345 : mFetch 167 345 = some (.aload_n 1, 1, []) := by decide +kernel
theorem f_167_346 : mFetch 167 346 = some (.ldc 135, 2, [1, 130]) := by decide +kernel
theorem f_167_348 : mFetch 167 348 = some (.invokevirtual 37, 3, [159, 2, 2, 12, 1400, 1401, 1402]) := by decide +kernel
theorem f_167_351 : mFetch 167 351 = some (.iload_n 3, 1, []) := by decide +kernel
theorem f_167_352 : mFetch 167 352 = some (.invokevirtual 41, 3, [160, 2, 2, 12, 1495, 1496, 1497]) := by decide +kernel
theorem f_167_355 : mFetch 167 355 = some (.ldc 137, 2, [1, 132]) := by decide +kernel
theorem f_167_357 : mFetch 167 357 = some (.invokevirtual 37, 3, [159, 2, 2, 12, 1400, 1401, 1402]) := by decide +kernel
theorem f_167_360 : mFetch 167 360 = some (.pop, 1, []) := by decide +kernel
theorem f_167_361 : mFetch 167 361 = some (.iconst 0, 1, []) := by decide +kernel
theorem f_167_362 : mFetch 167 362 = some (.istore 5, 2, []) := by decide +kernel
theorem f_167_364 : mFetch 167 364 = some (.iload 5, 2, []) := by decide +kernel
theorem f_167_366 : mFetch 167 366 = some (.aload_n 2, 1, []) := by decide +kernel
theorem f_167_367 : mFetch 167 367 = some (.getfield 128, 3, [10, 10, 0, 1343]) := by decide +kernel
theorem f_167_370 : mFetch 167 370 = some (.iload_n 3, 1, []) := by decide +kernel
theorem f_167_371 : mFetch 167 371 = some (.aaload, 1, []) := by decide +kernel
theorem f_167_372 : mFetch 167 372 = some (.arraylength, 1, []) := by decide +kernel
theorem f_167_373 : mFetch 167 373 = some (.if_icmp .ge 55, 3, [428]) := by decide +kernel
theorem f_167_376 : mFetch 167 376 = some (.aload_n 2, 1, []) := by decide +kernel
theorem f_167_377 : mFetch 167 377 = some (.getfield 128, 3, [10, 10, 0, 1343]) := by decide +kernel
theorem f_167_380 : mFetch 167 380 = some (.iload_n 3, 1, []) := by decide +kernel
theorem f_167_381 : mFetch 167 381 = some (.aaload, 1, []) := by decide +kernel
theorem f_167_382 : mFetch 167 382 = some (.iload 5, 2, []) := by decide +kernel
theorem f_167_384 : mFetch 167 384 = some (.iload 4, 2, []) := by decide +kernel
theorem f_167_386 : mFetch 167 386 = some (.iload 5, 2, []) := by decide +kernel
theorem f_167_388 : mFetch 167 388 = some (.ishr, 1, []) := by decide +kernel
theorem f_167_389 : mFetch 167 389 = some (.iconst 2, 1, []) := by decide +kernel
theorem f_167_390 : mFetch 167 390 = some (.iload 5, 2, []) := by decide +kernel
theorem f_167_392 : mFetch 167 392 = some (.imul, 1, []) := by decide +kernel
theorem f_167_393 : mFetch 167 393 = some (.iadd, 1, []) := by decide +kernel
theorem f_167_394 : mFetch 167 394 = some (.aload_n 2, 1, []) := by decide +kernel
theorem f_167_395 : mFetch 167 395 = some (.getfield 116, 3, [10, 9, 0, 1341]) := by decide +kernel
theorem f_167_398 : mFetch 167 398 = some (.arraylength, 1, []) := by decide +kernel
theorem f_167_399 : mFetch 167 399 = some (.invokestatic 99, 3, [163, 2, 0, 0, 1395, 1396]) := by decide +kernel
theorem f_167_402 : mFetch 167 402 = some (.iastore, 1, []) := by decide +kernel
theorem f_167_403 : mFetch 167 403 = some (.aload_n 1, 1, []) := by decide +kernel
theorem f_167_404 : mFetch 167 404 = some (.ldc 139, 2, [1, 134]) := by decide +kernel
theorem f_167_406 : mFetch 167 406 = some (.invokevirtual 37, 3, [159, 2, 2, 12, 1400, 1401, 1402]) := by decide +kernel
theorem f_167_409 : mFetch 167 409 = some (.aload_n 2, 1, []) := by decide +kernel
theorem f_167_410 : mFetch 167 410 = some (.getfield 128, 3, [10, 10, 0, 1343]) := by decide +kernel
theorem f_167_413 : mFetch 167 413 = some (.iload_n 3, 1, []) := by decide +kernel
theorem f_167_414 : mFetch 167 414 = some (.aaload, 1, []) := by decide +kernel
theorem f_167_415 : mFetch 167 415 = some (.iload 5, 2, []) := by decide +kernel
theorem f_167_417 : mFetch 167 417 = some (.iaload, 1, []) := by decide +kernel
theorem f_167_418 : mFetch 167 418 = some (.invokevirtual 41, 3, [160, 2, 2, 12, 1495, 1496, 1497]) := by decide +kernel
theorem f_167_421 : mFetch 167 421 = some (.pop, 1, []) := by decide +kernel
theorem f_167_422 : mFetch 167 422 = some (.iinc 5 1, 3, []) := by decide +kernel
theorem f_167_425 : mFetch 167 425 = some (.goto (-61), 3, [364]) := by decide +kernel
theorem f_167_428 : mFetch 167 428 = some (.aload_n 1, 1, []) := by decide +kernel
theorem f_167_429 : mFetch 167 429 = some (.ldc 111, 2, [1, 118]) := by decide +kernel
theorem f_167_431 : mFetch 167 431 = some (.invokevirtual 37, 3, [159, 2, 2, 12, 1400, 1401, 1402]) := by decide +kernel
theorem f_167_434 : mFetch 167 434 = some (.pop, 1, []) := by decide +kernel
theorem f_167_435 : mFetch 167 435 = some (.iinc 3 1, 3, []) := by decide +kernel
theorem f_167_438 : mFetch 167 438 = some (.goto (-140), 3, [298]) := by decide +kernel
theorem f_167_441 : mFetch 167 441 = some (.iconst 2, 1, []) := by decide +kernel
theorem f_167_442 : mFetch 167 442 = some (.aload_n 0, 1, []) := by decide +kernel
theorem f_167_443 : mFetch 167 443 = some (.iconst 3, 1, []) := by decide +kernel
theorem f_167_444 : mFetch 167 444 = some (.invokestatic 93, 3, [164, 2, 0, 0, 934, 935]) := by decide +kernel
theorem f_167_447 : mFetch 167 447 = some (.iconst 3, 1, []) := by decide +kernel
theorem f_167_448 : mFetch 167 448 = some (.invokestatic 99, 3, [163, 2, 0, 0, 1395, 1396]) := by decide +kernel
theorem f_167_451 : mFetch 167 451 = some (.iadd, 1, []) := by decide +kernel
theorem f_167_452 : mFetch 167 452 = some (.istore_n 3, 1, []) := by decide +kernel
theorem f_167_453 : mFetch 167 453 = some (.aload_n 2, 1, []) := by decide +kernel
theorem f_167_454 : mFetch 167 454 = some (.iload_n 3, 1, []) := by decide +kernel
theorem f_167_455 : mFetch 167 455 = some (.anewarray 115, 3, [52, 1523]) := by decide +kernel
theorem f_167_458 : mFetch 167 458 = some (.putfield 141, 3, [10, 12, 0, 1347]) := by decide +kernel
theorem f_167_461 : mFetch 167 461 = some (.aload_n 2, 1, []) := by decide +kernel
theorem f_167_462 : mFetch 167 462 = some (.iload_n 3, 1, []) := by decide +kernel
theorem f_167_463 : mFetch 167 463 = some (.aload_n 2, 1, []) := by decide +kernel
theorem f_167_464 : mFetch 167 464 = some (.getfield 103, 3, [10, 8, 0, 1339]) := by decide +kernel
theorem f_167_467 : mFetch 167 467 = some (.arraylength, 1, []) := by decide +kernel
theorem f_167_468 : mFetch 167 468 = some (.multianewarray 131 2, 4, [1528]) := by decide +kernel
theorem f_167_472 : mFetch 167 472 = some (.putfield 144, 3, [10, 13, 0, 1349]) := by decide +kernel
theorem f_167_475 : mFetch 167 475 = some (.aload_n 2, 1, []) := by decide +kernel
theorem f_167_476 : mFetch 167 476 = some (.iload_n 3, 1, []) := by decide +kernel
theorem f_167_477 : mFetch 167 477 = some (.aload_n 2, 1, []) := by decide +kernel
theorem f_167_478 : mFetch 167 478 = some (.getfield 116, 3, [10, 9, 0, 1341]) := by decide +kernel
theorem f_167_481 : mFetch 167 481 = some (.arraylength, 1, []) := by decide +kernel
theorem f_167_482 : mFetch 167 482 = some (.multianewarray 131 2, 4, [1528]) := by decide +kernel
theorem f_167_486 : mFetch 167 486 = some (.putfield 147, 3, [10, 14, 0, 1351]) := by decide +kernel
theorem f_167_489 : mFetch 167 489 = some (.iconst 0, 1, []) := by decide +kernel
theorem f_167_490 : mFetch 167 490 = some (.istore 4, 2, []) := by decide +kernel
theorem f_167_492 : mFetch 167 492 = some (.iload 4, 2, []) := by decide +kernel
theorem f_167_494 : mFetch 167 494 = some (.iload_n 3, 1, []) := by decide +kernel
theorem f_167_495 : mFetch 167 495 = some (.if_icmp .ge 206, 3, [701]) := by decide +kernel
theorem f_167_498 : mFetch 167 498 = some (.aload_n 0, 1, []) := by decide +kernel
theorem f_167_499 : mFetch 167 499 = some (.iconst 3, 1, []) := by decide +kernel
theorem f_167_500 : mFetch 167 500 = some (.invokestatic 93, 3, [164, 2, 0, 0, 934, 935]) := by decide +kernel
theorem f_167_503 : mFetch 167 503 = some (.iconst 2, 1, []) := by decide +kernel
theorem f_167_504 : mFetch 167 504 = some (.iconst 4, 1, []) := by decide +kernel
theorem f_167_505 : mFetch 167 505 = some (.iload 4, 2, []) := by decide +kernel
theorem f_167_507 : mFetch 167 507 = some (.imul, 1, []) := by decide +kernel
theorem f_167_508 : mFetch 167 508 = some (.iadd, 1, []) := by decide +kernel
theorem f_167_509 : mFetch 167 509 = some (.ishr, 1, []) := by decide +kernel
theorem f_167_510 : mFetch 167 510 = some (.istore 5, 2, []) := by decide +kernel
theorem f_167_512 : mFetch 167 512 = some (.iload 5, 2, []) := by decide +kernel
theorem f_167_514 : mFetch 167 514 = some (.iconst 4, 1, []) := by decide +kernel
theorem f_167_515 : mFetch 167 515 = some (.invokestatic 99, 3, [163, 2, 0, 0, 1395, 1396]) := by decide +kernel
theorem f_167_518 : mFetch 167 518 = some (.istore 6, 2, []) := by decide +kernel
theorem f_167_520 : mFetch 167 520 = some (.aload_n 2, 1, []) := by decide +kernel
theorem f_167_521 : mFetch 167 521 = some (.getfield 141, 3, [10, 12, 0, 1347]) := by decide +kernel
theorem f_167_524 : mFetch 167 524 = some (.iload 4, 2, []) := by decide +kernel
theorem f_167_526 : mFetch 167 526 = some (.bipush 9, 2, []) := by decide +kernel
theorem f_167_528 : mFetch 167 528 = some (.newarray .int, 2, [50]) := by decide +kernel
theorem f_167_530 : mFetch 167 530 = some (.dup, 1, []) := by decide +kernel
theorem f_167_531 : mFetch 167 531 = some (.iconst 0, 1, []) := by decide +kernel
theorem f_167_532 : mFetch 167 532 = some (.iconst 1, 1, []) := by decide +kernel
theorem f_167_533 : mFetch 167 533 = some (.iastore, 1, []) := by decide +kernel
theorem f_167_534 : mFetch 167 534 = some (.dup, 1, []) := by decide +kernel
theorem f_167_535 : mFetch 167 535 = some (.iconst 1, 1, []) := by decide +kernel
theorem f_167_536 : mFetch 167 536 = some (.iconst 0, 1, []) := by decide +kernel
theorem f_167_537 : mFetch 167 537 = some (.iastore, 1, []) := by decide +kernel
theorem f_167_538 : mFetch 167 538 = some (.dup, 1, []) := by decide +kernel
theorem f_167_539 : mFetch 167 539 = some (.iconst 2, 1, []) := by decide +kernel
theorem f_167_540 : mFetch 167 540 = some (.iconst 0, 1, []) := by decide +kernel
theorem f_167_541 : mFetch 167 541 = some (.iastore, 1, []) := by decide +kernel
theorem f_167_542 : mFetch 167 542 = some (.dup, 1, []) := by decide +kernel
theorem f_167_543 : mFetch 167 543 = some (.iconst 3, 1, []) := by decide +kernel
theorem f_167_544 : mFetch 167 544 = some (.iload 6, 2, []) := by decide +kernel
theorem f_167_546 : mFetch 167 546 = some (.iastore, 1, []) := by decide +kernel
theorem f_167_547 : mFetch 167 547 = some (.dup, 1, []) := by decide +kernel
theorem f_167_548 : mFetch 167 548 = some (.iconst 4, 1, []) := by decide +kernel
theorem f_167_549 : mFetch 167 549 = some (.iconst 1, 1, []) := by decide +kernel
theorem f_167_550 : mFetch 167 550 = some (.iastore, 1, []) := by decide +kernel
theorem f_167_551 : mFetch 167 551 = some (.dup, 1, []) := by decide +kernel
theorem f_167_552 : mFetch 167 552 = some (.iconst 5, 1, []) := by decide +kernel
theorem f_167_553 : mFetch 167 553 = some (.iconst 0, 1, []) := by decide +kernel
theorem f_167_554 : mFetch 167 554 = some (.iastore, 1, []) := by decide +kernel
theorem f_167_555 : mFetch 167 555 = some (.dup, 1, []) := by decide +kernel
theorem f_167_556 : mFetch 167 556 = some (.bipush 6, 2, []) := by decide +kernel
theorem f_167_558 : mFetch 167 558 = some (.iconst 0, 1, []) := by decide +kernel
theorem f_167_559 : mFetch 167 559 = some (.iastore, 1, []) := by decide +kernel
theorem f_167_560 : mFetch 167 560 = some (.dup, 1, []) := by decide +kernel
theorem f_167_561 : mFetch 167 561 = some (.bipush 7, 2, []) := by decide +kernel
theorem f_167_563 : mFetch 167 563 = some (.iconst 0, 1, []) := by decide +kernel
theorem f_167_564 : mFetch 167 564 = some (.iastore, 1, []) := by decide +kernel
theorem f_167_565 : mFetch 167 565 = some (.dup, 1, []) := by decide +kernel
theorem f_167_566 : mFetch 167 566 = some (.bipush 8, 2, []) := by decide +kernel
theorem f_167_568 : mFetch 167 568 = some (.iconst 0, 1, []) := by decide +kernel
theorem f_167_569 : mFetch 167 569 = some (.iastore, 1, []) := by decide +kernel
theorem f_167_570 : mFetch 167 570 = some (.aastore, 1, []) := by decide +kernel
theorem f_167_571 : mFetch 167 571 = some (.aload_n 1, 1, []) := by decide +kernel
theorem f_167_572 : mFetch 167 572 = some (.ldc 150, 2, [1, 136]) := by decide +kernel
theorem f_167_574 : mFetch 167 574 = some (.invokevirtual 37, 3, [159, 2, 2, 12, 1400, 1401, 1402]) := by decide +kernel
theorem f_167_577 : mFetch 167 577 = some (.iload 4, 2, []) := by decide +kernel
theorem f_167_579 : mFetch 167 579 = some (.invokevirtual 41, 3, [160, 2, 2, 12, 1495, 1496, 1497]) := by decide +kernel
theorem f_167_582 : mFetch 167 582 = some (.ldc 152, 2, [1, 138]) := by decide +kernel
theorem f_167_584 : mFetch 167 584 = some (.invokevirtual 37, 3, [159, 2, 2, 12, 1400, 1401, 1402]) := by decide +kernel
theorem f_167_587 : mFetch 167 587 = some (.iload 6, 2, []) := by decide +kernel
theorem f_167_589 : mFetch 167 589 = some (.invokevirtual 41, 3, [160, 2, 2, 12, 1495, 1496, 1497]) := by decide +kernel
theorem f_167_592 : mFetch 167 592 = some (.pop, 1, []) := by decide +kernel
theorem f_167_593 : mFetch 167 593 = some (.iconst 0, 1, []) := by decide +kernel
theorem f_167_594 : mFetch 167 594 = some (.istore 7, 2, []) := by decide +kernel
theorem f_167_596 : mFetch 167 596 = some (.iload 7, 2, []) := by decide +kernel
theorem f_167_598 : mFetch 167 598 = some (.iconst 1, 1, []) := by decide +kernel
theorem f_167_599 : mFetch 167 599 = some (.iload 5, 2, []) := by decide +kernel
theorem f_167_601 : mFetch 167 601 = some (.iconst 3, 1, []) := by decide +kernel
theorem f_167_602 : mFetch 167 602 = some (.ishr, 1, []) := by decide +kernel
theorem f_167_603 : mFetch 167 603 = some (.iconst 4, 1, []) := by decide +kernel
theorem f_167_604 : mFetch 167 604 = some (.invokestatic 99, 3, [163, 2, 0, 0, 1395, 1396]) := by decide +kernel
theorem f_167_607 : mFetch 167 607 = some (.iadd, 1, []) := by decide +kernel
theorem f_167_608 : mFetch 167 608 = some (.if_icmp .ge 80, 3, [688]) := by decide +kernel
theorem f_167_611 : mFetch 167 611 = some (.iload 5, 2, []) := by decide +kernel
theorem f_167_613 : mFetch 167 613 = some (.iconst 2, 1, []) := by decide +kernel
theorem f_167_614 : mFetch 167 614 = some (.ishr, 1, []) := by decide +kernel
theorem f_167_615 : mFetch 167 615 = some (.iload 7, 2, []) := by decide +kernel
theorem f_167_617 : mFetch 167 617 = some (.iadd, 1, []) := by decide +kernel
theorem f_167_618 : mFetch 167 618 = some (.aload_n 2, 1, []) := by decide +kernel
theorem f_167_619 : mFetch 167 619 = some (.getfield 103, 3, [10, 8, 0, 1339]) := by decide +kernel
theorem f_167_622 : mFetch 167 622 = some (.arraylength, 1, []) := by decide +kernel
theorem f_167_623 : mFetch 167 623 = some (.invokestatic 99, 3, [163, 2, 0, 0, 1395, 1396]) := by decide +kernel
theorem f_167_626 : mFetch 167 626 = some (.istore 8, 2, []) := by decide +kernel
theorem f_167_628 : mFetch 167 628 = some (.aload_n 2, 1, []) := by decide +kernel
theorem f_167_629 : mFetch 167 629 = some (.getfield 144, 3, [10, 13, 0, 1349]) := by decide +kernel
theorem f_167_632 : mFetch 167 632 = some (.iload 4, 2, []) := by decide +kernel
theorem f_167_634 : mFetch 167 634 = some (.aaload, 1, []) := by decide +kernel
theorem f_167_635 : mFetch 167 635 = some (.iload 8, 2, []) := by decide +kernel
theorem f_167_637 : mFetch 167 637 = some (.iload 5, 2, []) := by decide +kernel
theorem f_167_639 : mFetch 167 639 = some (.iconst 4, 1, []) := by decide +kernel
theorem f_167_640 : mFetch 167 640 = some (.ishr, 1, []) := by decide +kernel
theorem f_167_641 : mFetch 167 641 = some (.iconst 5, 1, []) := by decide +kernel
theorem f_167_642 : mFetch 167 642 = some (.iload 7, 2, []) := by decide +kernel
theorem f_167_644 : mFetch 167 644 = some (.imul, 1, []) := by decide +kernel
theorem f_167_645 : mFetch 167 645 = some (.iadd, 1, []) := by decide +kernel
theorem f_167_646 : mFetch 167 646 = some (.bipush 15, 2, []) := by decide +kernel
theorem f_167_648 : mFetch 167 648 = some (.invokestatic 99, 3, [163, 2, 0, 0, 1395, 1396]) := by decide +kernel
theorem f_167_651 : mFetch 167 651 = some (.iastore, 1, []) := by decide +kernel
theorem f_167_652 : mFetch 167 652 = some (.aload_n 1, 1, []) := by decide +kernel
theorem f_167_653 : mFetch 167 653 = some (.ldc 154, 2, [1, 140]) := by decide +kernel
theorem f_167_655 : mFetch 167 655 = some (.invokevirtual 37, 3, [159, 2, 2, 12, 1400, 1401, 1402]) := by decide +kernel
theorem f_167_658 : mFetch 167 658 = some (.iload 8, 2, []) := by decide +kernel
theorem f_167_660 : mFetch 167 660 = some (.invokevirtual 41, 3, [160, 2, 2, 12, 1495, 1496, 1497]) := by decide +kernel
theorem f_167_663 : mFetch 167 663 = some (.ldc 156, 2, [1, 142]) := by decide +kernel
theorem f_167_665 : mFetch 167 665 = some (.invokevirtual 37, 3, [159, 2, 2, 12, 1400, 1401, 1402]) := by decide +kernel
theorem f_167_668 : mFetch 167 668 = some (.aload_n 2, 1, []) := by decide +kernel
theorem f_167_669 : mFetch 167 669 = some (.getfield 144, 3, [10, 13, 0, 1349]) := by decide +kernel
theorem f_167_672 : mFetch 167 672 = some (.iload 4, 2, []) := by decide +kernel
theorem f_167_674 : mFetch 167 674 = some (.aaload, 1, []) := by decide +kernel
theorem f_167_675 : mFetch 167 675 = some (.iload 8, 2, []) := by decide +kernel
theorem f_167_677 : mFetch 167 677 = some (.iaload, 1, []) := by decide +kernel
theorem f_167_678 : mFetch 167 678 = some (.invokevirtual 41, 3, [160, 2, 2, 12, 1495, 1496, 1497]) := by decide +kernel
theorem f_167_681 : mFetch 167 681 = some (.pop, 1, []) := by decide +kernel
theorem f_167_682 : mFetch 167 682 = some (.iinc 7 1, 3, []) := by decide +kernel
theorem f_167_685 : mFetch 167 685 = some (.goto (-89), 3, [596]) := by decide +kernel
theorem f_167_688 : mFetch 167 688 = some (.aload_n 1, 1, []) := by decide +kernel
theorem f_167_689 : mFetch 167 689 = some (.ldc 158, 2, [1, 144]) := by decide +kernel
theorem f_167_691 : mFetch 167 691 = some (.invokevirtual 37, 3, [159, 2, 2, 12, 1400, 1401, 1402]) := by decide +kernel
theorem f_167_694 : mFetch 167 694 = some (.pop, 1, []) := by decide +kernel
theorem f_167_695 : mFetch 167 695 = some (.iinc 4 1, 3, []) := by decide +kernel
theorem f_167_698 : mFetch 167 698 = some (.goto (-206), 3, [492]) := by decide +kernel
theorem f_167_701 : mFetch 167 701 = some (.aload_n 2, 1, []) := by decide +kernel
theorem f_167_702 : mFetch 167 702 = some (.iconst 1, 1, []) := by decide +kernel
theorem f_167_703 : mFetch 167 703 = some (.aload_n 0, 1, []) := by decide +kernel
theorem f_167_704 : mFetch 167 704 = some (.iconst 4, 1, []) := by decide +kernel
theorem f_167_705 : mFetch 167 705 = some (.invokestatic 93, 3, [164, 2, 0, 0, 934, 935]) := by decide +kernel
theorem f_167_708 : mFetch 167 708 = some (.iconst 3, 1, []) := by decide +kernel
theorem f_167_709 : mFetch 167 709 = some (.invokestatic 99, 3, [163, 2, 0, 0, 1395, 1396]) := by decide +kernel
theorem f_167_712 : mFetch 167 712 = some (.iadd, 1, []) := by decide +kernel
theorem f_167_713 : mFetch 167 713 = some (.anewarray 115, 3, [52, 1523]) := by decide +kernel
theorem f_167_716 : mFetch 167 716 = some (.putfield 160, 3, [10, 15, 0, 1353]) := by decide +kernel
theorem f_167_719 : mFetch 167 719 = some (.aload_n 2, 1, []) := by decide +kernel
theorem f_167_720 : mFetch 167 720 = some (.aload_n 2, 1, []) := by decide +kernel
theorem f_167_721 : mFetch 167 721 = some (.getfield 160, 3, [10, 15, 0, 1353]) := by decide +kernel
theorem f_167_724 : mFetch 167 724 = some (.arraylength, 1, []) := by decide +kernel
theorem f_167_725 : mFetch 167 725 = some (.anewarray 115, 3, [52, 1523]) := by decide +kernel
theorem f_167_728 : mFetch 167 728 = some (.putfield 163, 3, [10, 16, 0, 1355]) := by decide +kernel
theorem f_167_731 : mFetch 167 731 = some (.iconst 0, 1, []) := by decide +kernel
theorem f_167_732 : mFetch 167 732 = some (.istore 4, 2, []) := by decide +kernel
theorem f_167_734 : mFetch 167 734 = some (.iload 4, 2, []) := by decide +kernel
theorem f_167_736 : mFetch 167 736 = some (.aload_n 2, 1, []) := by decide +kernel
theorem f_167_737 : mFetch 167 737 = some (.getfield 160, 3, [10, 15, 0, 1353]) := by decide +kernel
theorem f_167_740 : mFetch 167 740 = some (.arraylength, 1, []) := by decide +kernel
theorem f_167_741 : mFetch 167 741 = some (.if_icmp .ge 215, 3, [956]) := by decide +kernel
theorem f_167_744 : mFetch 167 744 = some (.aload_n 0, 1, []) := by decide +kernel
theorem f_167_745 : mFetch 167 745 = some (.iconst 4, 1, []) := by decide +kernel
theorem f_167_746 : mFetch 167 746 = some (.invokestatic 93, 3, [164, 2, 0, 0, 934, 935]) := by decide +kernel
theorem f_167_749 : mFetch 167 749 = some (.iconst 2, 1, []) := by decide +kernel
theorem f_167_750 : mFetch 167 750 = some (.iconst 5, 1, []) := by decide +kernel
theorem f_167_751 : mFetch 167 751 = some (.iload 4, 2, []) := by decide +kernel
theorem f_167_753 : mFetch 167 753 = some (.imul, 1, []) := by decide +kernel
theorem f_167_754 : mFetch 167 754 = some (.iadd, 1, []) := by decide +kernel
theorem f_167_755 : mFetch 167 755 = some (.ishr, 1, []) := by decide +kernel
theorem f_167_756 : mFetch 167 756 = some (.istore 5, 2, []) := by decide +kernel
theorem f_167_758 : mFetch 167 758 = some (.aload_n 2, 1, []) := by decide +kernel
theorem f_167_759 : mFetch 167 759 = some (.getfield 160, 3, [10, 15, 0, 1353]) := by decide +kernel
theorem f_167_762 : mFetch 167 762 = some (.iload 4, 2, []) := by decide +kernel
theorem f_167_764 : mFetch 167 764 = some (.iconst 2, 1, []) := by decide +kernel
theorem f_167_765 : mFetch 167 765 = some (.newarray .int, 2, [50]) := by decide +kernel
theorem f_167_767 : mFetch 167 767 = some (.dup, 1, []) := by decide +kernel
theorem f_167_768 : mFetch 167 768 = some (.iconst 0, 1, []) := by decide +kernel
theorem f_167_769 : mFetch 167 769 = some (.iload 5, 2, []) := by decide +kernel
theorem f_167_771 : mFetch 167 771 = some (.iconst 4, 1, []) := by decide +kernel
theorem f_167_772 : mFetch 167 772 = some (.invokestatic 99, 3, [163, 2, 0, 0, 1395, 1396]) := by decide +kernel
theorem f_167_775 : mFetch 167 775 = some (.iload 4, 2, []) := by decide +kernel
theorem f_167_777 : mFetch 167 777 = some (.imul, 1, []) := by decide +kernel
theorem f_167_778 : mFetch 167 778 = some (.iconst 2, 1, []) := by decide +kernel
theorem f_167_779 : mFetch 167 779 = some (.imul, 1, []) := by decide +kernel
theorem f_167_780 : mFetch 167 780 = some (.iload 5, 2, []) := by decide +kernel
theorem f_167_782 : mFetch 167 782 = some (.iconst 3, 1, []) := by decide +kernel
theorem f_167_783 : mFetch 167 783 = some (.ishr, 1, []) := by decide +kernel
theorem f_167_784 : mFetch 167 784 = some (.iconst 3, 1, []) := by decide +kernel
theorem f_167_785 : mFetch 167 785 = some (.invokestatic 99, 3, [163, 2, 0, 0, 1395, 1396]) := by decide +kernel
theorem f_167_788 : mFetch 167 788 = some (.iadd, 1, []) := by decide +kernel
theorem f_167_789 : mFetch 167 789 = some (.iastore, 1, []) := by decide +kernel
theorem f_167_790 : mFetch 167 790 = some (.dup, 1, []) := by decide +kernel
theorem f_167_791 : mFetch 167 791 = some (.iconst 1, 1, []) := by decide +kernel
theorem f_167_792 : mFetch 167 792 = some (.iconst 1, 1, []) := by decide +kernel
theorem f_167_793 : mFetch 167 793 = some (.iload 5, 2, []) := by decide +kernel
theorem f_167_795 : mFetch 167 795 = some (.iconst 2, 1, []) := by decide +kernel
theorem f_167_796 : mFetch 167 796 = some (.ishr, 1, []) := by decide +kernel
theorem f_167_797 : mFetch 167 797 = some (.iconst 3, 1, []) := by decide +kernel
theorem f_167_798 : mFetch 167 798 = some (.invokestatic 99, 3, [163, 2, 0, 0, 1395, 1396]) := by decide +kernel
theorem f_167_801 : mFetch 167 801 = some (.iadd, 1, []) := by decide +kernel
theorem f_167_802 : mFetch 167 802 = some (.iastore, 1, []) := by decide +kernel
theorem f_167_803 : mFetch 167 803 = some (.aastore, 1, []) := by decide +kernel
theorem f_167_804 : mFetch 167 804 = some (.aload_n 2, 1, []) := by decide +kernel
theorem f_167_805 : mFetch 167 805 = some (.getfield 163, 3, [10, 16, 0, 1355]) := by decide +kernel
theorem f_167_808 : mFetch 167 808 = some (.iload 4, 2, []) := by decide +kernel
theorem f_167_810 : mFetch 167 810 = some (.iconst 1, 1, []) := by decide +kernel
theorem f_167_811 : mFetch 167 811 = some (.iload 5, 2, []) := by decide +kernel
theorem f_167_813 : mFetch 167 813 = some (.iconst 4, 1, []) := by decide +kernel
theorem f_167_814 : mFetch 167 814 = some (.ishr, 1, []) := by decide +kernel
theorem f_167_815 : mFetch 167 815 = some (.iconst 5, 1, []) := by decide +kernel
theorem f_167_816 : mFetch 167 816 = some (.invokestatic 99, 3, [163, 2, 0, 0, 1395, 1396]) := by decide +kernel
theorem f_167_819 : mFetch 167 819 = some (.iadd, 1, []) := by decide +kernel
theorem f_167_820 : mFetch 167 820 = some (.newarray .int, 2, [50]) := by decide +kernel
theorem f_167_822 : mFetch 167 822 = some (.aastore, 1, []) := by decide +kernel
theorem f_167_823 : mFetch 167 823 = some (.aload_n 1, 1, []) := by decide +kernel
theorem f_167_824 : mFetch 167 824 = some (.ldc 166, 2, [1, 146]) := by decide +kernel
theorem f_167_826 : mFetch 167 826 = some (.invokevirtual 37, 3, [159, 2, 2, 12, 1400, 1401, 1402]) := by decide +kernel
theorem f_167_829 : mFetch 167 829 = some (.iload 4, 2, []) := by decide +kernel
theorem f_167_831 : mFetch 167 831 = some (.invokevirtual 41, 3, [160, 2, 2, 12, 1495, 1496, 1497]) := by decide +kernel
theorem f_167_834 : mFetch 167 834 = some (.ldc 168, 2, [1, 148]) := by decide +kernel
theorem f_167_836 : mFetch 167 836 = some (.invokevirtual 37, 3, [159, 2, 2, 12, 1400, 1401, 1402]) := by decide +kernel
theorem f_167_839 : mFetch 167 839 = some (.aload_n 2, 1, []) := by decide +kernel
theorem f_167_840 : mFetch 167 840 = some (.getfield 160, 3, [10, 15, 0, 1353]) := by decide +kernel
theorem f_167_843 : mFetch 167 843 = some (.iload 4, 2, []) := by decide +kernel
theorem f_167_845 : mFetch 167 845 = some (.aaload, 1, []) := by decide +kernel
theorem f_167_846 : mFetch 167 846 = some (.iconst 0, 1, []) := by decide +kernel
theorem f_167_847 : mFetch 167 847 = some (.iaload, 1, []) := by decide +kernel
theorem f_167_848 : mFetch 167 848 = some (.invokevirtual 41, 3, [160, 2, 2, 12, 1495, 1496, 1497]) := by decide +kernel
theorem f_167_851 : mFetch 167 851 = some (.ldc 170, 2, [1, 150]) := by decide +kernel
theorem f_167_853 : mFetch 167 853 = some (.invokevirtual 37, 3, [159, 2, 2, 12, 1400, 1401, 1402]) := by decide +kernel
theorem f_167_856 : mFetch 167 856 = some (.aload_n 2, 1, []) := by decide +kernel
theorem f_167_857 : mFetch 167 857 = some (.getfield 160, 3, [10, 15, 0, 1353]) := by decide +kernel
theorem f_167_860 : mFetch 167 860 = some (.iload 4, 2, []) := by decide +kernel
theorem f_167_862 : mFetch 167 862 = some (.aaload, 1, []) := by decide +kernel
theorem f_167_863 : mFetch 167 863 = some (.iconst 1, 1, []) := by decide +kernel
theorem f_167_864 : mFetch 167 864 = some (.iaload, 1, []) := by decide +kernel
theorem f_167_865 : mFetch 167 865 = some (.invokevirtual 41, 3, [160, 2, 2, 12, 1495, 1496, 1497]) := by decide +kernel
theorem f_167_868 : mFetch 167 868 = some (.ldc 172, 2, [1, 152]) := by decide +kernel
theorem f_167_870 : mFetch 167 870 = some (.invokevirtual 37, 3, [159, 2, 2, 12, 1400, 1401, 1402]) := by decide +kernel
theorem f_167_873 : mFetch 167 873 = some (.pop, 1, []) := by decide +kernel
theorem f_167_874 : mFetch 167 874 = some (.iconst 0, 1, []) := by decide +kernel
theorem f_167_875 : mFetch 167 875 = some (.istore 6, 2, []) := by decide +kernel
theorem f_167_877 : mFetch 167 877 = some (.iload 6, 2, []) := by decide +kernel
theorem f_167_879 : mFetch 167 879 = some (.aload_n 2, 1, []) := by decide +kernel
theorem f_167_880 : mFetch 167 880 = some (.getfield 163, 3, [10, 16, 0, 1355]) := by decide +kernel
theorem f_167_883 : mFetch 167 883 = some (.iload 4, 2, []) := by decide +kernel
theorem f_167_885 : mFetch 167 885 = some (.aaload, 1, []) := by decide +kernel
theorem f_167_886 : mFetch 167 886 = some (.arraylength, 1, []) := by decide +kernel
theorem f_167_887 : mFetch 167 887 = some (.if_icmp .ge 56, 3, [943]) := by decide +kernel
theorem f_167_890 : mFetch 167 890 = some (.aload_n 2, 1, []) := by decide +kernel
theorem f_167_891 : mFetch 167 891 = some (.getfield 163, 3, [10, 16, 0, 1355]) := by decide +kernel
theorem f_167_894 : mFetch 167 894 = some (.iload 4, 2, []) := by decide +kernel
theorem f_167_896 : mFetch 167 896 = some (.aaload, 1, []) := by decide +kernel
theorem f_167_897 : mFetch 167 897 = some (.iload 6, 2, []) := by decide +kernel
theorem f_167_899 : mFetch 167 899 = some (.iload 5, 2, []) := by decide +kernel
theorem f_167_901 : mFetch 167 901 = some (.iconst 1, 1, []) := by decide +kernel
theorem f_167_902 : mFetch 167 902 = some (.ishr, 1, []) := by decide +kernel
theorem f_167_903 : mFetch 167 903 = some (.iconst 3, 1, []) := by decide +kernel
theorem f_167_904 : mFetch 167 904 = some (.iload 6, 2, []) := by decide +kernel
theorem f_167_906 : mFetch 167 906 = some (.imul, 1, []) := by decide +kernel
theorem f_167_907 : mFetch 167 907 = some (.iadd, 1, []) := by decide +kernel
theorem f_167_908 : mFetch 167 908 = some (.aload_n 2, 1, []) := by decide +kernel
theorem f_167_909 : mFetch 167 909 = some (.getfield 128, 3, [10, 10, 0, 1343]) := by decide +kernel
theorem f_167_912 : mFetch 167 912 = some (.arraylength, 1, []) := by decide +kernel
theorem f_167_913 : mFetch 167 913 = some (.invokestatic 99, 3, [163, 2, 0, 0, 1395, 1396]) := by decide +kernel
theorem f_167_916 : mFetch 167 916 = some (.iastore, 1, []) := by decide +kernel
theorem f_167_917 : mFetch 167 917 = some (.aload_n 1, 1, []) := by decide +kernel
theorem f_167_918 : mFetch 167 918 = some (.ldc 48, 2, [1, 72]) := by decide +kernel
theorem f_167_920 : mFetch 167 920 = some (.invokevirtual 37, 3, [159, 2, 2, 12, 1400, 1401, 1402]) := by decide +kernel
theorem f_167_923 : mFetch 167 923 = some (.aload_n 2, 1, []) := by decide +kernel
theorem f_167_924 : mFetch 167 924 = some (.getfield 163, 3, [10, 16, 0, 1355]) := by decide +kernel
theorem f_167_927 : mFetch 167 927 = some (.iload 4, 2, []) := by decide +kernel
theorem f_167_929 : mFetch 167 929 = some (.aaload, 1, []) := by decide +kernel
theorem f_167_930 : mFetch 167 930 = some (.iload 6, 2, []) := by decide +kernel
theorem f_167_932 : mFetch 167 932 = some (.iaload, 1, []) := by decide +kernel
theorem f_167_933 : mFetch 167 933 = some (.invokevirtual 41, 3, [160, 2, 2, 12, 1495, 1496, 1497]) := by decide +kernel
theorem f_167_936 : mFetch 167 936 = some (.pop, 1, []) := by decide +kernel
theorem f_167_937 : mFetch 167 937 = some (.iinc 6 1, 3, []) := by decide +kernel
theorem f_167_940 : mFetch 167 940 = some (.goto (-63), 3, [877]) := by decide +kernel
theorem f_167_943 : mFetch 167 943 = some (.aload_n 1, 1, []) := by decide +kernel
theorem f_167_944 : mFetch 167 944 = some (.ldc 111, 2, [1, 118]) := by decide +kernel
theorem f_167_946 : mFetch 167 946 = some (.invokevirtual 37, 3, [159, 2, 2, 12, 1400, 1401, 1402]) := by decide +kernel
theorem f_167_949 : mFetch 167 949 = some (.pop, 1, []) := by decide +kernel
theorem f_167_950 : mFetch 167 950 = some (.iinc 4 1, 3, []) := by decide +kernel
theorem f_167_953 : mFetch 167 953 = some (.goto (-219), 3, [734]) := by decide +kernel
theorem f_167_956 : mFetch 167 956 = some (.aload_n 2, 1, []) := by decide +kernel
theorem f_167_957 : mFetch 167 957 = some (.aload_n 0, 1, []) := by decide +kernel
theorem f_167_958 : mFetch 167 958 = some (.iconst 5, 1, []) := by decide +kernel
theorem f_167_959 : mFetch 167 959 = some (.invokestatic 93, 3, [164, 2, 0, 0, 934, 935]) := by decide +kernel
theorem f_167_962 : mFetch 167 962 = some (.bipush 9, 2, []) := by decide +kernel
theorem f_167_964 : mFetch 167 964 = some (.invokestatic 99, 3, [163, 2, 0, 0, 1395, 1396]) := by decide +kernel
theorem f_167_967 : mFetch 167 967 = some (.anewarray 115, 3, [52, 1523]) := by decide +kernel
theorem f_167_970 : mFetch 167 970 = some (.putfield 174, 3, [10, 17, 0, 1357]) := by decide +kernel
theorem f_167_973 : mFetch 167 973 = some (.iconst 3, 1, []) := by decide +kernel
theorem f_167_974 : mFetch 167 974 = some (.anewarray 10, 3, [54, 1542]) := by decide +kernel
theorem f_167_977 : mFetch 167 977 = some (.dup, 1, []) := by decide +kernel
theorem f_167_978 : mFetch 167 978 = some (.iconst 0, 1, []) := by decide +kernel
theorem f_167_979 : mFetch 167 979 = some (.ldc 177, 2, [1, 154]) := by decide +kernel
theorem f_167_981 : mFetch 167 981 = some (.aastore, 1, []) := by decide +kernel
theorem f_167_982 : mFetch 167 982 = some (.dup, 1, []) := by decide +kernel
theorem f_167_983 : mFetch 167 983 = some (.iconst 1, 1, []) := by decide +kernel
theorem f_167_984 : mFetch 167 984 = some (.ldc 179, 2, [1, 156]) := by decide +kernel
theorem f_167_986 : mFetch 167 986 = some (.aastore, 1, []) := by decide +kernel
theorem f_167_987 : mFetch 167 987 = some (.dup, 1, []) := by decide +kernel
theorem f_167_988 : mFetch 167 988 = some (.iconst 2, 1, []) := by decide +kernel
theorem f_167_989 : mFetch 167 989 = some (.ldc 181, 2, [1, 158]) := by decide +kernel
theorem f_167_991 : mFetch 167 991 = some (.aastore, 1, []) := by decide +kernel
theorem f_167_992 : mFetch 167 992 = some (.astore 4, 2, []) := by decide +kernel
theorem f_167_994 : mFetch 167 994 = some (.iconst 0, 1, []) := by decide +kernel
theorem f_167_995 : mFetch 167 995 = some (.istore 5, 2, []) := by decide +kernel
theorem f_167_997 : mFetch 167 997 = some (.iload 5, 2, []) := by decide +kernel
theorem f_167_999 : mFetch 167 999 = some (.aload_n 2, 1, []) := by decide +kernel
theorem f_167_1000 : mFetch 167 1000 = some (.getfield 174, 3, [10, 17, 0, 1357]) := by decide +kernel
theorem f_167_1003 : mFetch 167 1003 = some (.arraylength, 1, []) := by decide +kernel
theorem f_167_1004 : mFetch 167 1004 = some (.if_icmp .ge 179, 3, [1183]) := by decide +kernel
theorem f_167_1007 : mFetch 167 1007 = some (.aload_n 0, 1, []) := by decide +kernel
theorem f_167_1008 : mFetch 167 1008 = some (.bipush 6, 2, []) := by decide +kernel
theorem f_167_1010 : mFetch 167 1010 = some (.iload 5, 2, []) := by decide +kernel
theorem f_167_1012 : mFetch 167 1012 = some (.bipush 8, 2, []) := by decide +kernel
theorem f_167_1014 : mFetch 167 1014 = some (.irem, 1, []) := by decide +kernel
theorem f_167_1015 : mFetch 167 1015 = some (.iadd, 1, []) := by decide +kernel
theorem f_167_1016 : mFetch 167 1016 = some (.invokestatic 93, 3, [164, 2, 0, 0, 934, 935]) := by decide +kernel
theorem f_167_1019 : mFetch 167 1019 = some (.iconst 2, 1, []) := by decide +kernel
theorem f_167_1020 : mFetch 167 1020 = some (.iload 5, 2, []) := by decide +kernel
theorem f_167_1022 : mFetch 167 1022 = some (.bipush 8, 2, []) := by decide +kernel
theorem f_167_1024 : mFetch 167 1024 = some (.idiv, 1, []) := by decide +kernel
theorem f_167_1025 : mFetch 167 1025 = some (.iadd, 1, []) := by decide +kernel
theorem f_167_1026 : mFetch 167 1026 = some (.ishr, 1, []) := by decide +kernel
theorem f_167_1027 : mFetch 167 1027 = some (.istore 6, 2, []) := by decide +kernel
theorem f_167_1029 : mFetch 167 1029 = some (.bipush 6, 2, []) := by decide +kernel
theorem f_167_1031 : mFetch 167 1031 = some (.newarray .int, 2, [50]) := by decide +kernel
theorem f_167_1033 : mFetch 167 1033 = some (.dup, 1, []) := by decide +kernel
theorem f_167_1034 : mFetch 167 1034 = some (.iconst 0, 1, []) := by decide +kernel
theorem f_167_1035 : mFetch 167 1035 = some (.iload 6, 2, []) := by decide +kernel
theorem f_167_1037 : mFetch 167 1037 = some (.iconst 3, 1, []) := by decide +kernel
theorem f_167_1038 : mFetch 167 1038 = some (.invokestatic 99, 3, [163, 2, 0, 0, 1395, 1396]) := by decide +kernel
theorem f_167_1041 : mFetch 167 1041 = some (.iastore, 1, []) := by decide +kernel
theorem f_167_1042 : mFetch 167 1042 = some (.dup, 1, []) := by decide +kernel
theorem f_167_1043 : mFetch 167 1043 = some (.iconst 1, 1, []) := by decide +kernel
theorem f_167_1044 : mFetch 167 1044 = some (.iload 6, 2, []) := by decide +kernel
theorem f_167_1046 : mFetch 167 1046 = some (.iconst 2, 1, []) := by decide +kernel
theorem f_167_1047 : mFetch 167 1047 = some (.ishr, 1, []) := by decide +kernel
theorem f_167_1048 : mFetch 167 1048 = some (.iload_n 3, 1, []) := by decide +kernel
theorem f_167_1049 : mFetch 167 1049 = some (.invokestatic 99, 3, [163, 2, 0, 0, 1395, 1396]) := by decide +kernel
theorem f_167_1052 : mFetch 167 1052 = some (.iastore, 1, []) := by decide +kernel
theorem f_167_1053 : mFetch 167 1053 = some (.dup, 1, []) := by decide +kernel
theorem f_167_1054 : mFetch 167 1054 = some (.iconst 2, 1, []) := by decide +kernel
theorem f_167_1055 : mFetch 167 1055 = some (.iload 6, 2, []) := by decide +kernel
theorem f_167_1057 : mFetch 167 1057 = some (.iconst 4, 1, []) := by decide +kernel
theorem f_167_1058 : mFetch 167 1058 = some (.ishr, 1, []) := by decide +kernel
theorem f_167_1059 : mFetch 167 1059 = some (.bipush 9, 2, []) := by decide +kernel
theorem f_167_1061 : mFetch 167 1061 = some (.invokestatic 99, 3, [163, 2, 0, 0, 1395, 1396]) := by decide +kernel
theorem f_167_1064 : mFetch 167 1064 = some (.iastore, 1, []) := by decide +kernel
theorem f_167_1065 : mFetch 167 1065 = some (.dup, 1, []) := by decide +kernel
theorem f_167_1066 : mFetch 167 1066 = some (.iconst 3, 1, []) := by decide +kernel
theorem f_167_1067 : mFetch 167 1067 = some (.iload 6, 2, []) := by decide +kernel
theorem f_167_1069 : mFetch 167 1069 = some (.iconst 3, 1, []) := by decide +kernel
theorem f_167_1070 : mFetch 167 1070 = some (.ishr, 1, []) := by decide +kernel
theorem f_167_1071 : mFetch 167 1071 = some (.bipush 7, 2, []) := by decide +kernel
theorem f_167_1073 : mFetch 167 1073 = some (.invokestatic 99, 3, [163, 2, 0, 0, 1395, 1396]) := by decide +kernel
theorem f_167_1076 : mFetch 167 1076 = some (.iastore, 1, []) := by decide +kernel
theorem f_167_1077 : mFetch 167 1077 = some (.dup, 1, []) := by decide +kernel
theorem f_167_1078 : mFetch 167 1078 = some (.iconst 4, 1, []) := by decide +kernel
theorem f_167_1079 : mFetch 167 1079 = some (.iload 6, 2, []) := by decide +kernel
theorem f_167_1081 : mFetch 167 1081 = some (.iconst 5, 1, []) := by decide +kernel
theorem f_167_1082 : mFetch 167 1082 = some (.ishr, 1, []) := by decide +kernel
theorem f_167_1083 : mFetch 167 1083 = some (.iload_n 3, 1, []) := by decide +kernel
theorem f_167_1084 : mFetch 167 1084 = some (.invokestatic 99, 3, [163, 2, 0, 0, 1395, 1396]) := by decide +kernel
theorem f_167_1087 : mFetch 167 1087 = some (.iastore, 1, []) := by decide +kernel
theorem f_167_1088 : mFetch 167 1088 = some (.dup, 1, []) := by decide +kernel
theorem f_167_1089 : mFetch 167 1089 = some (.iconst 5, 1, []) := by decide +kernel
theorem f_167_1090 : mFetch 167 1090 = some (.iload 6, 2, []) := by decide +kernel
theorem f_167_1092 : mFetch 167 1092 = some (.bipush 6, 2, []) := by decide +kernel
theorem f_167_1094 : mFetch 167 1094 = some (.ishr, 1, []) := by decide +kernel
theorem f_167_1095 : mFetch 167 1095 = some (.aload_n 2, 1, []) := by decide +kernel
theorem f_167_1096 : mFetch 167 1096 = some (.getfield 128, 3, [10, 10, 0, 1343]) := by decide +kernel
theorem f_167_1099 : mFetch 167 1099 = some (.arraylength, 1, []) := by decide +kernel
theorem f_167_1100 : mFetch 167 1100 = some (.invokestatic 99, 3, [163, 2, 0, 0, 1395, 1396]) := by decide +kernel
theorem f_167_1103 : mFetch 167 1103 = some (.iastore, 1, []) := by decide +kernel
theorem f_167_1104 : mFetch 167 1104 = some (.astore 7, 2, []) := by decide +kernel
theorem f_167_1106 : mFetch 167 1106 = some (.iload 6, 2, []) := by decide +kernel
theorem f_167_1108 : mFetch 167 1108 = some (.bipush 8, 2, []) := by decide +kernel
theorem f_167_1110 : mFetch 167 1110 = some (.ishr, 1, []) := by decide +kernel
theorem f_167_1111 : mFetch 167 1111 = some (.iconst 2, 1, []) := by decide +kernel
theorem f_167_1112 : mFetch 167 1112 = some (.invokestatic 99, 3, [163, 2, 0, 0, 1395, 1396]) := by decide +kernel
theorem f_167_1115 : mFetch 167 1115 = some (.ifCond .ne 11, 3, [1126]) := by decide +kernel
theorem f_167_1118 : mFetch 167 1118 = some (.aload 7, 2, []) := by decide +kernel
theorem f_167_1120 : mFetch 167 1120 = some (.iconst 4, 1, []) := by decide +kernel
theorem f_167_1121 : mFetch 167 1121 = some (.aload 7, 2, []) := by decide +kernel
theorem f_167_1123 : mFetch 167 1123 = some (.iconst 1, 1, []) := by decide +kernel
theorem f_167_1124 : mFetch 167 1124 = some (.iaload, 1, []) := by decide +kernel
theorem f_167_1125 : mFetch 167 1125 = some (.iastore, 1, []) := by decide +kernel
theorem f_167_1126 : mFetch 167 1126 = some (.aload_n 2, 1, []) := by decide +kernel
theorem f_167_1127 : mFetch 167 1127 = some (.getfield 174, 3, [10, 17, 0, 1357]) := by decide +kernel
theorem f_167_1130 : mFetch 167 1130 = some (.iload 5, 2, []) := by decide +kernel
theorem f_167_1132 : mFetch 167 1132 = some (.aload 7, 2, []) := by decide +kernel
theorem f_167_1134 : mFetch 167 1134 = some (.aastore, 1, []) := by decide +kernel
theorem f_167_1135 : mFetch 167 1135 = some (.aload_n 1, 1, []) := by decide +kernel
theorem f_167_1136 : mFetch 167 1136 = some (.aload 4, 2, []) := by decide +kernel
theorem f_167_1138 : mFetch 167 1138 = some (.aload 7, 2, []) := by decide +kernel
theorem f_167_1140 : mFetch 167 1140 = some (.iconst 0, 1, []) := by decide +kernel
theorem f_167_1141 : mFetch 167 1141 = some (.iaload, 1, []) := by decide +kernel
theorem f_167_1142 : mFetch 167 1142 = some (.aaload, 1, []) := by decide +kernel
theorem f_167_1143 : mFetch 167 1143 = some (.invokevirtual 37, 3, [159, 2, 2, 12, 1400, 1401, 1402]) := by decide +kernel
theorem f_167_1146 : mFetch 167 1146 = some (.ldc 35, 2, [1, 70]) := by decide +kernel
theorem f_167_1148 : mFetch 167 1148 = some (.invokevirtual 37, 3, [159, 2, 2, 12, 1400, 1401, 1402]) := by decide +kernel
theorem f_167_1151 : mFetch 167 1151 = some (.aload 7, 2, []) := by decide +kernel
theorem f_167_1153 : mFetch 167 1153 = some (.iconst 1, 1, []) := by decide +kernel
theorem f_167_1154 : mFetch 167 1154 = some (.iaload, 1, []) := by decide +kernel
theorem f_167_1155 : mFetch 167 1155 = some (.invokevirtual 41, 3, [160, 2, 2, 12, 1495, 1496, 1497]) := by decide +kernel
theorem f_167_1158 : mFetch 167 1158 = some (.ldc 183, 2, [1, 160]) := by decide +kernel
theorem f_167_1160 : mFetch 167 1160 = some (.invokevirtual 37, 3, [159, 2, 2, 12, 1400, 1401, 1402]) := by decide +kernel
theorem f_167_1163 : mFetch 167 1163 = some (.aload 7, 2, []) := by decide +kernel
theorem f_167_1165 : mFetch 167 1165 = some (.invokestatic 185, 3, [166, 1, 0, 0, 1549, 1550]) := by decide +kernel
theorem f_167_1168 : mFetch 167 1168 = some (.invokevirtual 37, 3, [159, 2, 2, 12, 1400, 1401, 1402]) := by decide +kernel
theorem f_167_1171 : mFetch 167 1171 = some (.ldc 111, 2, [1, 118]) := by decide +kernel
theorem f_167_1173 : mFetch 167 1173 = some (.invokevirtual 37, 3, [159, 2, 2, 12, 1400, 1401, 1402]) := by decide +kernel
theorem f_167_1176 : mFetch 167 1176 = some (.pop, 1, []) := by decide +kernel
theorem f_167_1177 : mFetch 167 1177 = some (.iinc 5 1, 3, []) := by decide +kernel
theorem f_167_1180 : mFetch 167 1180 = some (.goto (-183), 3, [997]) := by decide +kernel
theorem f_167_1183 : mFetch 167 1183 = some (.aload_n 2, 1, []) := by decide +kernel
theorem f_167_1184 : mFetch 167 1184 = some (.iconst 0, 1, []) := by decide +kernel
theorem f_167_1185 : mFetch 167 1185 = some (.putfield 189, 3, [10, 1, 0, 1330]) := by decide +kernel
theorem f_167_1188 : mFetch 167 1188 = some (.aload_n 2, 1, []) := by decide +kernel
theorem f_167_1189 : mFetch 167 1189 = some (.areturn, 1, []) := by decide +kernel
theorem lm_167_3 : mLvm 167 3 = 3 := by decide +kernel
theorem lm_167_7 : mLvm 167 7 = 3 := by decide +kernel
theorem lm_167_15 : mLvm 167 15 = 7 := by decide +kernel
theorem lm_167_19 : mLvm 167 19 = 7 := by decide +kernel
theorem lm_167_22 : mLvm 167 22 = 7 := by decide +kernel
theorem lm_167_25 : mLvm 167 25 = 7 := by decide +kernel
theorem lm_167_27 : mLvm 167 27 = 15 := by decide +kernel
theorem lm_167_36 : mLvm 167 36 = 15 := by decide +kernel
theorem lm_167_46 : mLvm 167 46 = 15 := by decide +kernel
theorem lm_167_56 : mLvm 167 56 = 15 := by decide +kernel
theorem lm_167_57 : mLvm 167 57 = 15 := by decide +kernel
theorem lm_167_63 : mLvm 167 63 = 15 := by decide +kernel
theorem lm_167_67 : mLvm 167 67 = 15 := by decide +kernel
theorem lm_167_72 : mLvm 167 72 = 15 := by decide +kernel
theorem lm_167_81 : mLvm 167 81 = 15 := by decide +kernel
theorem lm_167_87 : mLvm 167 87 = 15 := by decide +kernel
theorem lm_167_92 : mLvm 167 92 = 15 := by decide +kernel
theorem lm_167_94 : mLvm 167 94 = 15 := by decide +kernel
theorem lm_167_97 : mLvm 167 97 = 15 := by decide +kernel
theorem lm_167_104 : mLvm 167 104 = 7 := by decide +kernel
theorem lm_167_111 : mLvm 167 111 = 7 := by decide +kernel
theorem lm_167_115 : mLvm 167 115 = 7 := by decide +kernel
theorem lm_167_119 : mLvm 167 119 = 7 := by decide +kernel
theorem lm_167_122 : mLvm 167 122 = 7 := by decide +kernel
theorem lm_167_124 : mLvm 167 124 = 15 := by decide +kernel
theorem lm_167_133 : mLvm 167 133 = 15 := by decide +kernel
theorem lm_167_138 : mLvm 167 138 = 15 := by decide +kernel
theorem lm_167_154 : mLvm 167 154 = 31 := by decide +kernel
theorem lm_167_166 : mLvm 167 166 = 31 := by decide +kernel
theorem lm_167_167 : mLvm 167 167 = 31 := by decide +kernel
theorem lm_167_179 : mLvm 167 179 = 31 := by decide +kernel
theorem lm_167_181 : mLvm 167 181 = 31 := by decide +kernel
theorem lm_167_192 : mLvm 167 192 = 15 := by decide +kernel
theorem lm_167_193 : mLvm 167 193 = 15 := by decide +kernel
theorem lm_167_194 : mLvm 167 194 = 15 := by decide +kernel
theorem lm_167_200 : mLvm 167 200 = 15 := by decide +kernel
theorem lm_167_204 : mLvm 167 204 = 15 := by decide +kernel
theorem lm_167_209 : mLvm 167 209 = 15 := by decide +kernel
theorem lm_167_220 : mLvm 167 220 = 15 := by decide +kernel
theorem lm_167_225 : mLvm 167 225 = 15 := by decide +kernel
theorem lm_167_236 : mLvm 167 236 = 15 := by decide +kernel
theorem lm_167_241 : mLvm 167 241 = 15 := by decide +kernel
theorem lm_167_252 : mLvm 167 252 = 15 := by decide +kernel
theorem lm_167_257 : mLvm 167 257 = 15 := by decide +kernel
theorem lm_167_264 : mLvm 167 264 = 7 := by decide +kernel
theorem lm_167_271 : mLvm 167 271 = 7 := by decide +kernel
theorem lm_167_275 : mLvm 167 275 = 7 := by decide +kernel
theorem lm_167_279 : mLvm 167 279 = 7 := by decide +kernel
theorem lm_167_282 : mLvm 167 282 = 7 := by decide +kernel
theorem lm_167_293 : mLvm 167 293 = 7 := by decide +kernel
theorem lm_167_296 : mLvm 167 296 = 7 := by decide +kernel
theorem lm_167_298 : mLvm 167 298 = 15 := by decide +kernel
theorem lm_167_307 : mLvm 167 307 = 15 := by decide +kernel
theorem lm_167_312 : mLvm 167 312 = 15 := by decide +kernel
theorem lm_167_337 : mLvm 167 337 = 31 := by decide +kernel
theorem lm_167_341 : mLvm 167 341 = 31 := by decide +kernel
theorem lm_167_344 : mLvm 167 344 = 31 := by decide +kernel
theorem lm_167_345 : mLvm 167 345 = 31 := by decide +kernel
theorem lm_167_351 : mLvm 167 351 = 31 := by decide +kernel
theorem lm_167_355 : mLvm 167 355 = 31 := by decide +kernel
theorem lm_167_360 : mLvm 167 360 = 31 := by decide +kernel
theorem lm_167_364 : mLvm 167 364 = 63 := by decide +kernel
theorem lm_167_376 : mLvm 167 376 = 63 := by decide +kernel
theorem lm_167_402 : mLvm 167 402 = 63 := by decide +kernel
theorem lm_167_403 : mLvm 167 403 = 63 := by decide +kernel
theorem lm_167_409 : mLvm 167 409 = 63 := by decide +kernel
theorem lm_167_421 : mLvm 167 421 = 63 := by decide +kernel
theorem lm_167_428 : mLvm 167 428 = 15 := by decide +kernel
theorem lm_167_434 : mLvm 167 434 = 15 := by decide +kernel
theorem lm_167_441 : mLvm 167 441 = 7 := by decide +kernel
theorem lm_167_447 : mLvm 167 447 = 7 := by decide +kernel
theorem lm_167_451 : mLvm 167 451 = 7 := by decide +kernel
theorem lm_167_458 : mLvm 167 458 = 15 := by decide +kernel
theorem lm_167_461 : mLvm 167 461 = 15 := by decide +kernel
theorem lm_167_472 : mLvm 167 472 = 15 := by decide +kernel
theorem lm_167_475 : mLvm 167 475 = 15 := by decide +kernel
theorem lm_167_486 : mLvm 167 486 = 15 := by decide +kernel
theorem lm_167_489 : mLvm 167 489 = 15 := by decide +kernel
theorem lm_167_492 : mLvm 167 492 = 31 := by decide +kernel
theorem lm_167_498 : mLvm 167 498 = 31 := by decide +kernel
theorem lm_167_503 : mLvm 167 503 = 31 := by decide +kernel
theorem lm_167_518 : mLvm 167 518 = 63 := by decide +kernel
theorem lm_167_530 : mLvm 167 530 = 127 := by decide +kernel
theorem lm_167_534 : mLvm 167 534 = 127 := by decide +kernel
theorem lm_167_538 : mLvm 167 538 = 127 := by decide +kernel
theorem lm_167_542 : mLvm 167 542 = 127 := by decide +kernel
theorem lm_167_547 : mLvm 167 547 = 127 := by decide +kernel
theorem lm_167_551 : mLvm 167 551 = 127 := by decide +kernel
theorem lm_167_555 : mLvm 167 555 = 127 := by decide +kernel
theorem lm_167_560 : mLvm 167 560 = 127 := by decide +kernel
theorem lm_167_565 : mLvm 167 565 = 127 := by decide +kernel
theorem lm_167_570 : mLvm 167 570 = 127 := by decide +kernel
theorem lm_167_571 : mLvm 167 571 = 127 := by decide +kernel
theorem lm_167_577 : mLvm 167 577 = 127 := by decide +kernel
theorem lm_167_582 : mLvm 167 582 = 127 := by decide +kernel
theorem lm_167_587 : mLvm 167 587 = 127 := by decide +kernel
theorem lm_167_592 : mLvm 167 592 = 63 := by decide +kernel
theorem lm_167_596 : mLvm 167 596 = 191 := by decide +kernel
theorem lm_167_607 : mLvm 167 607 = 191 := by decide +kernel
theorem lm_167_611 : mLvm 167 611 = 191 := by decide +kernel
theorem lm_167_626 : mLvm 167 626 = 191 := by decide +kernel
theorem lm_167_651 : mLvm 167 651 = 447 := by decide +kernel
theorem lm_167_652 : mLvm 167 652 = 447 := by decide +kernel
theorem lm_167_658 : mLvm 167 658 = 447 := by decide +kernel
theorem lm_167_663 : mLvm 167 663 = 447 := by decide +kernel
theorem lm_167_668 : mLvm 167 668 = 447 := by decide +kernel
theorem lm_167_681 : mLvm 167 681 = 191 := by decide +kernel
theorem lm_167_688 : mLvm 167 688 = 31 := by decide +kernel
theorem lm_167_694 : mLvm 167 694 = 31 := by decide +kernel
theorem lm_167_701 : mLvm 167 701 = 15 := by decide +kernel
theorem lm_167_708 : mLvm 167 708 = 15 := by decide +kernel
theorem lm_167_712 : mLvm 167 712 = 15 := by decide +kernel
theorem lm_167_716 : mLvm 167 716 = 15 := by decide +kernel
theorem lm_167_719 : mLvm 167 719 = 15 := by decide +kernel
theorem lm_167_728 : mLvm 167 728 = 15 := by decide +kernel
theorem lm_167_731 : mLvm 167 731 = 15 := by decide +kernel
theorem lm_167_734 : mLvm 167 734 = 31 := by decide +kernel
theorem lm_167_744 : mLvm 167 744 = 31 := by decide +kernel
theorem lm_167_749 : mLvm 167 749 = 31 := by decide +kernel
theorem lm_167_767 : mLvm 167 767 = 63 := by decide +kernel
theorem lm_167_775 : mLvm 167 775 = 63 := by decide +kernel
theorem lm_167_788 : mLvm 167 788 = 63 := by decide +kernel
theorem lm_167_790 : mLvm 167 790 = 63 := by decide +kernel
theorem lm_167_801 : mLvm 167 801 = 63 := by decide +kernel
theorem lm_167_803 : mLvm 167 803 = 63 := by decide +kernel
theorem lm_167_804 : mLvm 167 804 = 63 := by decide +kernel
theorem lm_167_819 : mLvm 167 819 = 63 := by decide +kernel
theorem lm_167_822 : mLvm 167 822 = 63 := by decide +kernel
theorem lm_167_823 : mLvm 167 823 = 63 := by decide +kernel
theorem lm_167_829 : mLvm 167 829 = 63 := by decide +kernel
theorem lm_167_834 : mLvm 167 834 = 63 := by decide +kernel
theorem lm_167_839 : mLvm 167 839 = 63 := by decide +kernel
theorem lm_167_851 : mLvm 167 851 = 63 := by decide +kernel
theorem lm_167_856 : mLvm 167 856 = 63 := by decide +kernel
theorem lm_167_868 : mLvm 167 868 = 63 := by decide +kernel
theorem lm_167_873 : mLvm 167 873 = 63 := by decide +kernel
theorem lm_167_877 : mLvm 167 877 = 127 := by decide +kernel
theorem lm_167_890 : mLvm 167 890 = 127 := by decide +kernel
theorem lm_167_916 : mLvm 167 916 = 127 := by decide +kernel
theorem lm_167_917 : mLvm 167 917 = 127 := by decide +kernel
theorem lm_167_923 : mLvm 167 923 = 127 := by decide +kernel
theorem lm_167_936 : mLvm 167 936 = 127 := by decide +kernel
theorem lm_167_943 : mLvm 167 943 = 31 := by decide +kernel
theorem lm_167_949 : mLvm 167 949 = 31 := by decide +kernel
theorem lm_167_956 : mLvm 167 956 = 15 := by decide +kernel
theorem lm_167_962 : mLvm 167 962 = 15 := by decide +kernel
theorem lm_167_967 : mLvm 167 967 = 15 := by decide +kernel
theorem lm_167_970 : mLvm 167 970 = 15 := by decide +kernel
theorem lm_167_973 : mLvm 167 973 = 15 := by decide +kernel
theorem lm_167_977 : mLvm 167 977 = 15 := by decide +kernel
theorem lm_167_982 : mLvm 167 982 = 15 := by decide +kernel
theorem lm_167_987 : mLvm 167 987 = 15 := by decide +kernel
theorem lm_167_992 : mLvm 167 992 = 15 := by decide +kernel
theorem lm_167_997 : mLvm 167 997 = 63 := by decide +kernel
theorem lm_167_1007 : mLvm 167 1007 = 63 := by decide +kernel
theorem lm_167_1019 : mLvm 167 1019 = 63 := by decide +kernel
theorem lm_167_1033 : mLvm 167 1033 = 127 := by decide +kernel
theorem lm_167_1041 : mLvm 167 1041 = 127 := by decide +kernel
theorem lm_167_1042 : mLvm 167 1042 = 127 := by decide +kernel
theorem lm_167_1052 : mLvm 167 1052 = 127 := by decide +kernel
theorem lm_167_1053 : mLvm 167 1053 = 127 := by decide +kernel
theorem lm_167_1064 : mLvm 167 1064 = 127 := by decide +kernel
theorem lm_167_1065 : mLvm 167 1065 = 127 := by decide +kernel
theorem lm_167_1076 : mLvm 167 1076 = 127 := by decide +kernel
theorem lm_167_1077 : mLvm 167 1077 = 127 := by decide +kernel
theorem lm_167_1087 : mLvm 167 1087 = 127 := by decide +kernel
theorem lm_167_1088 : mLvm 167 1088 = 127 := by decide +kernel
theorem lm_167_1103 : mLvm 167 1103 = 127 := by decide +kernel
theorem lm_167_1104 : mLvm 167 1104 = 127 := by decide +kernel
theorem lm_167_1115 : mLvm 167 1115 = 191 := by decide +kernel
theorem lm_167_1118 : mLvm 167 1118 = 191 := by decide +kernel
theorem lm_167_1126 : mLvm 167 1126 = 191 := by decide +kernel
theorem lm_167_1135 : mLvm 167 1135 = 191 := by decide +kernel
theorem lm_167_1146 : mLvm 167 1146 = 191 := by decide +kernel
theorem lm_167_1151 : mLvm 167 1151 = 191 := by decide +kernel
theorem lm_167_1158 : mLvm 167 1158 = 191 := by decide +kernel
theorem lm_167_1163 : mLvm 167 1163 = 191 := by decide +kernel
theorem lm_167_1168 : mLvm 167 1168 = 63 := by decide +kernel
theorem lm_167_1171 : mLvm 167 1171 = 63 := by decide +kernel
theorem lm_167_1176 : mLvm 167 1176 = 63 := by decide +kernel
theorem lm_167_1183 : mLvm 167 1183 = 4 := by decide +kernel
theorem lm_167_1188 : mLvm 167 1188 = 4 := by decide +kernel
theorem b_167_0 {d : Nat} {a0 : Nat} {a1 : Nat} {w : MW} : mX d 167 0 [.ref a0, .ref a1, mJ, mJ, mJ, mJ, mJ, mJ, mJ] [] w = mX d 167 3 [.ref a0, .ref a1, mJ, mJ, mJ, mJ, mJ, mJ, mJ] [.ref (mSz w)] (wN w 10 0 (mNf 10)) := by
  refine Eq.trans (X_new f_167_0 (Nat.le_of_ble_eq_true rfl)) ?_
  exact mX_maskK lm_167_3 rfl
theorem e_167 {d : Nat} {a0 : Nat} {a1 : Nat} {w : MW} : mK d 167 [.ref a0, .ref a1] w = mX d 167 0 [.ref a0, .ref a1, mJ, mJ, mJ, mJ, mJ, mJ, mJ] [] w := rfl
theorem b_167_3 {d : Nat} {a0 : Nat} {a1 : Nat} {b0 : Nat} {w : MW} (h0 : mE ≤ b0) : mX (d + 1) 167 3 [.ref a0, .ref a1, mJ, mJ, mJ, mJ, mJ, mJ, mJ] [.ref b0] w = mThen (mK d 126 [.ref b0] w) (fun v w9 => mX (d + 1) 167 7 [.ref a0, .ref a1, mJ, mJ, mJ, mJ, mJ, mJ, mJ] (v.toList ++ [.ref b0]) w9) := by
  refine Eq.trans (X_dup f_167_3 rfl) ?_
  refine Eq.trans (X_call f_167_4 (by decide) rfl rfl rfl rfl rfl rfl (Nat.le_of_ble_eq_true rfl) (Nat.le_of_ble_eq_true rfl) (decide_eq_true h0) (Nat.le_of_ble_eq_true rfl)) ?_
  exact mThen_eq fun v w9 => mX_maskK lm_167_7 rfl
theorem b_167_7 {d : Nat} {a0 : Nat} {a1 : Nat} {b0 : Nat} {w : MW} : mX (d + 1) 167 7 [.ref a0, .ref a1, mJ, mJ, mJ, mJ, mJ, mJ, mJ] [.ref b0] w = mThen (mK d 164 [.ref a0, .int (nI 0)] w) (fun v w9 => mX (d + 1) 167 15 [.ref a0, .ref a1, .ref b0, mJ, mJ, mJ, mJ, mJ, mJ] (v.toList ++ [.int (nI 1), .ref b0]) w9) := by
  refine Eq.trans (X_astore_n (L' := [.ref a0, .ref a1, .ref b0, mJ, mJ, mJ, mJ, mJ, mJ]) f_167_7 (Nat.le_of_ble_eq_true rfl) rfl) ?_
  refine Eq.trans (X_st f_167_8 rfl rfl) ?_
  refine Eq.trans (X_iconst f_167_9 kc_i_1) ?_
  refine Eq.trans (X_st f_167_10 rfl rfl) ?_
  refine Eq.trans (X_iconst f_167_11 kc_i_0) ?_
  refine Eq.trans (X_call f_167_12 (by decide) rfl rfl rfl rfl rfl rfl (Nat.le_of_ble_eq_true rfl) (Nat.le_of_ble_eq_true rfl) rfl (Nat.le_of_ble_eq_true rfl)) ?_
  exact mThen_eq fun v w9 => mX_maskK lm_167_15 rfl
theorem b_167_15 {d : Nat} {a0 : Nat} {a1 : Nat} {a2 : Nat} {y0 : Int32} {y1 : Int32} {b2 : Nat} {w : MW} : mX (d + 1) 167 15 [.ref a0, .ref a1, .ref a2, mJ, mJ, mJ, mJ, mJ, mJ] [.int y0, .int y1, .ref b2] w = mThen (mK d 163 [.int y0, .int (nI 3)] w) (fun v w9 => mX (d + 1) 167 19 [.ref a0, .ref a1, .ref a2, mJ, mJ, mJ, mJ, mJ, mJ] (v.toList ++ [.int y1, .ref b2]) w9) := by
  refine Eq.trans (X_iconst f_167_15 kc_i_3) ?_
  refine Eq.trans (X_call f_167_16 (by decide) rfl rfl rfl rfl rfl rfl (Nat.le_of_ble_eq_true rfl) (Nat.le_of_ble_eq_true rfl) rfl (Nat.le_of_ble_eq_true rfl)) ?_
  exact mThen_eq fun v w9 => mX_maskK lm_167_19 rfl
theorem b_167_19 {d : Nat} {a0 : Nat} {a1 : Nat} {a2 : Nat} {y0 : Int32} {y1 : Int32} {b2 : Nat} {z0 : Nat} {w : MW} (h0 : (y1 + y0) = nI z0) (h1 : z0 < 2147483648) (h2 : z0 ≤ 134217728) : mX d 167 19 [.ref a0, .ref a1, .ref a2, mJ, mJ, mJ, mJ, mJ, mJ] [.int y0, .int y1, .ref b2] w = mX d 167 22 [.ref a0, .ref a1, .ref a2, mJ, mJ, mJ, mJ, mJ, mJ] [.ref (mSz w), .ref b2] (wN w 50 z0 z0) := by
  refine Eq.trans (X_st f_167_19 rfl rfl) ?_
  refine Eq.trans (X_newa f_167_20 (jnnE h0 h1) (jclE h0 h1) h2) ?_
  exact mX_maskK lm_167_22 rfl
theorem b_167_22 {d : Nat} {a0 : Nat} {a1 : Nat} {a2 : Nat} {b0 : Nat} {b1 : Nat} {w : MW} (h0 : mTg w b1 = 10) (h1 : mE ≤ b1) : mX d 167 22 [.ref a0, .ref a1, .ref a2, mJ, mJ, mJ, mJ, mJ, mJ] [.ref b0, .ref b1] w = mX d 167 25 [.ref a0, .ref a1, .ref a2, mJ, mJ, mJ, mJ, mJ, mJ] [] (wR w b1 8 (some b0)) := by
  refine Eq.trans (X_putR f_167_22 h0 h1 rfl) ?_
  exact mX_maskK lm_167_25 rfl
theorem b_167_25 {d : Nat} {a0 : Nat} {a1 : Nat} {a2 : Nat} {w : MW} : mX d 167 25 [.ref a0, .ref a1, .ref a2, mJ, mJ, mJ, mJ, mJ, mJ] [] w = mX d 167 27 [.ref a0, .ref a1, .ref a2, .int (nI 0), mJ, mJ, mJ, mJ, mJ] [] w := by
  refine Eq.trans (X_iconst f_167_25 kc_i_0) ?_
  refine Eq.trans (X_istore_n (L' := [.ref a0, .ref a1, .ref a2, .int (nI 0), mJ, mJ, mJ, mJ, mJ]) f_167_26 (Nat.le_of_ble_eq_true rfl) rfl) ?_
  exact mX_maskK lm_167_27 rfl
theorem b_167_27 {d : Nat} {a0 : Nat} {a1 : Nat} {a2 : Nat} {x3 : Int32} {w : MW} (h0 : mTg w a2 = 10) (h1 : mR w a2 8 = some (gR w a2 8)) (h2 : 50 ≤ mTg w (gR w a2 8) ∧ mTg w (gR w a2 8) < 55) : mX d 167 27 [.ref a0, .ref a1, .ref a2, .int x3, mJ, mJ, mJ, mJ, mJ] [] w = (if (nI (mLn w (gR w a2 8))) ≤ x3 then mX d 167 104 [.ref a0, .ref a1, .ref a2, mJ, mJ, mJ, mJ, mJ, mJ] [] w else mX d 167 36 [.ref a0, .ref a1, .ref a2, .int x3, mJ, mJ, mJ, mJ, mJ] [] w) := by
  refine Eq.trans (X_st f_167_27 rfl rfl) ?_
  refine Eq.trans (X_st f_167_28 rfl rfl) ?_
  refine Eq.trans (X_getR f_167_29 h0 rfl h1) ?_
  refine Eq.trans (X_st f_167_32 rfl (if_pos h2)) ?_
  refine Eq.trans (X_br f_167_33 rfl rfl) ?_
  exact mIte_eq (mX_maskK lm_167_104 rfl) (mX_maskK lm_167_36 rfl)
theorem b_167_36 {d : Nat} {a0 : Nat} {a1 : Nat} {a2 : Nat} {x3 : Int32} {w : MW} (h0 : mTg w a2 = 10) (h1 : mR w a2 8 = some (gR w a2 8)) : mX (d + 1) 167 36 [.ref a0, .ref a1, .ref a2, .int x3, mJ, mJ, mJ, mJ, mJ] [] w = mThen (mK d 164 [.ref a0, .int (nI 0)] w) (fun v w9 => mX (d + 1) 167 46 [.ref a0, .ref a1, .ref a2, .int x3, mJ, mJ, mJ, mJ, mJ] (v.toList ++ [.int x3, .ref (gR w a2 8)]) w9) := by
  refine Eq.trans (X_st f_167_36 rfl rfl) ?_
  refine Eq.trans (X_getR f_167_37 h0 rfl h1) ?_
  refine Eq.trans (X_st f_167_40 rfl rfl) ?_
  refine Eq.trans (X_st f_167_41 rfl rfl) ?_
  refine Eq.trans (X_iconst f_167_42 kc_i_0) ?_
  refine Eq.trans (X_call f_167_43 (by decide) rfl rfl rfl rfl rfl rfl (Nat.le_of_ble_eq_true rfl) (Nat.le_of_ble_eq_true rfl) rfl (Nat.le_of_ble_eq_true rfl)) ?_
  exact mThen_eq fun v w9 => mX_maskK lm_167_46 rfl
theorem b_167_46 {d : Nat} {a0 : Nat} {a1 : Nat} {a2 : Nat} {x3 : Int32} {y0 : Int32} {y1 : Int32} {b2 : Nat} {w : MW} : mX (d + 1) 167 46 [.ref a0, .ref a1, .ref a2, .int x3, mJ, mJ, mJ, mJ, mJ] [.int y0, .int y1, .ref b2] w = mThen (mK d 163 [.int (y0 >>> ((((nI 3) * x3) + (nI 2)) &&& 31)), .int (nI 5)] w) (fun v w9 => mX (d + 1) 167 56 [.ref a0, .ref a1, .ref a2, .int x3, mJ, mJ, mJ, mJ, mJ] (v.toList ++ [.int y1, .ref b2]) w9) := by
  refine Eq.trans (X_iconst f_167_46 kc_i_3) ?_
  refine Eq.trans (X_st f_167_47 rfl rfl) ?_
  refine Eq.trans (X_st f_167_48 rfl rfl) ?_
  refine Eq.trans (X_iconst f_167_49 kc_i_2) ?_
  refine Eq.trans (X_st f_167_50 rfl rfl) ?_
  refine Eq.trans (X_st f_167_51 rfl rfl) ?_
  refine Eq.trans (X_iconst f_167_52 kc_i_5) ?_
  refine Eq.trans (X_call f_167_53 (by decide) rfl rfl rfl rfl rfl rfl (Nat.le_of_ble_eq_true rfl) (Nat.le_of_ble_eq_true rfl) rfl (Nat.le_of_ble_eq_true rfl)) ?_
  exact mThen_eq fun v w9 => mX_maskK lm_167_56 rfl
theorem b_167_56 {d : Nat} {a0 : Nat} {a1 : Nat} {a2 : Nat} {x3 : Int32} {y0 : Int32} {y1 : Nat} {b2 : Nat} {w : MW} (h0 : mTg w b2 = 50) (h1 : mE ≤ b2) (h2 : y1 < 2147483648) (h3 : y1 < mLn w b2) : mX d 167 56 [.ref a0, .ref a1, .ref a2, .int x3, mJ, mJ, mJ, mJ, mJ] [.int y0, .int (nI y1), .ref b2] w = mX d 167 57 [.ref a0, .ref a1, .ref a2, .int x3, mJ, mJ, mJ, mJ, mJ] [] (wI w b2 y1 y0) := by
  refine Eq.trans (X_iast f_167_56 h0 h1 (jnn h2) (jcl h2) h3) ?_
  exact mX_maskK lm_167_57 rfl
theorem b_167_57 {d : Nat} {a0 : Nat} {a1 : Nat} {a2 : Nat} {x3 : Int32} {w : MW} (h0 : mTg w a1 = 12) : mX (d + 1) 167 57 [.ref a0, .ref a1, .ref a2, .int x3, mJ, mJ, mJ, mJ, mJ] [] w = mThen (mK d 159 [.ref a1, .ref 114] w) (fun v w9 => mX (d + 1) 167 63 [.ref a0, .ref a1, .ref a2, .int x3, mJ, mJ, mJ, mJ, mJ] (v.toList ++ []) w9) := by
  refine Eq.trans (X_st f_167_57 rfl rfl) ?_
  refine Eq.trans (X_st f_167_58 rfl rfl) ?_
  refine Eq.trans (X_call f_167_60 (by decide) rfl rfl rfl rfl rfl rfl (Nat.le_of_ble_eq_true rfl) (Nat.le_of_ble_eq_true rfl) (decide_eq_true h0) (Nat.le_of_ble_eq_true rfl)) ?_
  exact mThen_eq fun v w9 => mX_maskK lm_167_63 rfl
theorem b_167_63 {d : Nat} {a0 : Nat} {a1 : Nat} {a2 : Nat} {x3 : Int32} {b0 : Nat} {w : MW} (h0 : mTg w b0 = 12) : mX (d + 1) 167 63 [.ref a0, .ref a1, .ref a2, .int x3, mJ, mJ, mJ, mJ, mJ] [.ref b0] w = mThen (mK d 160 [.ref b0, .int x3] w) (fun v w9 => mX (d + 1) 167 67 [.ref a0, .ref a1, .ref a2, .int x3, mJ, mJ, mJ, mJ, mJ] (v.toList ++ []) w9) := by
  refine Eq.trans (X_st f_167_63 rfl rfl) ?_
  refine Eq.trans (X_call f_167_64 (by decide) rfl rfl rfl rfl rfl rfl (Nat.le_of_ble_eq_true rfl) (Nat.le_of_ble_eq_true rfl) (decide_eq_true h0) (Nat.le_of_ble_eq_true rfl)) ?_
  exact mThen_eq fun v w9 => mX_maskK lm_167_67 rfl
theorem b_167_67 {d : Nat} {a0 : Nat} {a1 : Nat} {a2 : Nat} {x3 : Int32} {b0 : Nat} {w : MW} (h0 : mTg w b0 = 12) : mX (d + 1) 167 67 [.ref a0, .ref a1, .ref a2, .int x3, mJ, mJ, mJ, mJ, mJ] [.ref b0] w = mThen (mK d 159 [.ref b0, .ref 116] w) (fun v w9 => mX (d + 1) 167 72 [.ref a0, .ref a1, .ref a2, .int x3, mJ, mJ, mJ, mJ, mJ] (v.toList ++ []) w9) := by
  refine Eq.trans (X_st f_167_67 rfl rfl) ?_
  refine Eq.trans (X_call f_167_69 (by decide) rfl rfl rfl rfl rfl rfl (Nat.le_of_ble_eq_true rfl) (Nat.le_of_ble_eq_true rfl) (decide_eq_true h0) (Nat.le_of_ble_eq_true rfl)) ?_
  exact mThen_eq fun v w9 => mX_maskK lm_167_72 rfl
theorem b_167_72 {d : Nat} {a0 : Nat} {a1 : Nat} {a2 : Nat} {x3 : Nat} {b0 : Nat} {w : MW} (h0 : mTg w a2 = 10) (h1 : mR w a2 8 = some (gR w a2 8)) (h2 : mTg w (gR w a2 8) = 50) (h3 : x3 < 2147483648) (h4 : x3 < mLn w (gR w a2 8)) (h5 : mTg w b0 = 12) : mX (d + 1) 167 72 [.ref a0, .ref a1, .ref a2, .int (nI x3), mJ, mJ, mJ, mJ, mJ] [.ref b0] w = mThen (mK d 160 [.ref b0, .int (mI w (gR w a2 8) x3)] w) (fun v w9 => mX (d + 1) 167 81 [.ref a0, .ref a1, .ref a2, .int (nI x3), mJ, mJ, mJ, mJ, mJ] (v.toList ++ []) w9) := by
  refine Eq.trans (X_st f_167_72 rfl rfl) ?_
  refine Eq.trans (X_getR f_167_73 h0 rfl h1) ?_
  refine Eq.trans (X_st f_167_76 rfl rfl) ?_
  refine Eq.trans (X_iald f_167_77 h2 (jnn h3) (jcl h3) h4) ?_
  refine Eq.trans (X_call f_167_78 (by decide) rfl rfl rfl rfl rfl rfl (Nat.le_of_ble_eq_true rfl) (Nat.le_of_ble_eq_true rfl) (decide_eq_true h5) (Nat.le_of_ble_eq_true rfl)) ?_
  exact mThen_eq fun v w9 => mX_maskK lm_167_81 rfl
theorem b_167_81 {d : Nat} {a0 : Nat} {a1 : Nat} {a2 : Nat} {x3 : Int32} {b0 : Nat} {w : MW} : mX d 167 81 [.ref a0, .ref a1, .ref a2, .int x3, mJ, mJ, mJ, mJ, mJ] [.ref b0] w = (if ¬ (x3 - x3 / (nI 2) * (nI 2)) = nI 0 then mX d 167 92 [.ref a0, .ref a1, .ref a2, .int x3, mJ, mJ, mJ, mJ, mJ] [.ref b0] w else mX d 167 87 [.ref a0, .ref a1, .ref a2, .int x3, mJ, mJ, mJ, mJ, mJ] [.ref b0] w) := by
  refine Eq.trans (X_st f_167_81 rfl rfl) ?_
  refine Eq.trans (X_iconst f_167_82 kc_i_2) ?_
  refine Eq.trans (X_irem f_167_83 kz_2) ?_
  refine Eq.trans (X_br f_167_84 rfl rfl) ?_
  exact mIte_eq (mX_maskK lm_167_92 rfl) (mX_maskK lm_167_87 rfl)
theorem b_167_87 {d : Nat} {a0 : Nat} {a1 : Nat} {a2 : Nat} {x3 : Int32} {b0 : Nat} {w : MW} : mX d 167 87 [.ref a0, .ref a1, .ref a2, .int x3, mJ, mJ, mJ, mJ, mJ] [.ref b0] w = mX d 167 94 [.ref a0, .ref a1, .ref a2, .int x3, mJ, mJ, mJ, mJ, mJ] [.ref 118, .ref b0] w := by
  refine Eq.trans (X_st f_167_87 rfl rfl) ?_
  refine Eq.trans (X_st f_167_89 rfl rfl) ?_
  exact mX_maskK lm_167_94 rfl
theorem b_167_92 {d : Nat} {a0 : Nat} {a1 : Nat} {a2 : Nat} {x3 : Int32} {b0 : Nat} {w : MW} : mX d 167 92 [.ref a0, .ref a1, .ref a2, .int x3, mJ, mJ, mJ, mJ, mJ] [.ref b0] w = mX d 167 94 [.ref a0, .ref a1, .ref a2, .int x3, mJ, mJ, mJ, mJ, mJ] [.ref 120, .ref b0] w := by
  refine Eq.trans (X_st f_167_92 rfl rfl) ?_
  exact mX_maskK lm_167_94 rfl
theorem b_167_94 {d : Nat} {a0 : Nat} {a1 : Nat} {a2 : Nat} {x3 : Int32} {b0 : Nat} {b1 : Nat} {w : MW} (h0 : mTg w b1 = 12) : mX (d + 1) 167 94 [.ref a0, .ref a1, .ref a2, .int x3, mJ, mJ, mJ, mJ, mJ] [.ref b0, .ref b1] w = mThen (mK d 159 [.ref b1, .ref b0] w) (fun v w9 => mX (d + 1) 167 97 [.ref a0, .ref a1, .ref a2, .int x3, mJ, mJ, mJ, mJ, mJ] (v.toList ++ []) w9) := by
  refine Eq.trans (X_call f_167_94 (by decide) rfl rfl rfl rfl rfl rfl (Nat.le_of_ble_eq_true rfl) (Nat.le_of_ble_eq_true rfl) (decide_eq_true h0) (Nat.le_of_ble_eq_true rfl)) ?_
  exact mThen_eq fun v w9 => mX_maskK lm_167_97 rfl
theorem b_167_97 {d : Nat} {a0 : Nat} {a1 : Nat} {a2 : Nat} {x3 : Int32} {b0 : Nat} {w : MW} : mX d 167 97 [.ref a0, .ref a1, .ref a2, .int x3, mJ, mJ, mJ, mJ, mJ] [.ref b0] w = mX d 167 27 [.ref a0, .ref a1, .ref a2, .int (x3 + (nI 1)), mJ, mJ, mJ, mJ, mJ] [] w := by
  refine Eq.trans (X_pop f_167_97 rfl) ?_
  refine Eq.trans (X_iinc f_167_98 kc_i_1 rfl rfl) ?_
  refine Eq.trans (X_st f_167_101 rfl rfl) ?_
  exact mX_maskK lm_167_27 rfl
theorem b_167_104 {d : Nat} {a0 : Nat} {a1 : Nat} {a2 : Nat} {w : MW} : mX (d + 1) 167 104 [.ref a0, .ref a1, .ref a2, mJ, mJ, mJ, mJ, mJ, mJ] [] w = mThen (mK d 164 [.ref a0, .int (nI 1)] w) (fun v w9 => mX (d + 1) 167 111 [.ref a0, .ref a1, .ref a2, mJ, mJ, mJ, mJ, mJ, mJ] (v.toList ++ [.int (nI 2), .ref a2]) w9) := by
  refine Eq.trans (X_st f_167_104 rfl rfl) ?_
  refine Eq.trans (X_iconst f_167_105 kc_i_2) ?_
  refine Eq.trans (X_st f_167_106 rfl rfl) ?_
  refine Eq.trans (X_iconst f_167_107 kc_i_1) ?_
  refine Eq.trans (X_call f_167_108 (by decide) rfl rfl rfl rfl rfl rfl (Nat.le_of_ble_eq_true rfl) (Nat.le_of_ble_eq_true rfl) rfl (Nat.le_of_ble_eq_true rfl)) ?_
  exact mThen_eq fun v w9 => mX_maskK lm_167_111 rfl
theorem b_167_111 {d : Nat} {a0 : Nat} {a1 : Nat} {a2 : Nat} {y0 : Int32} {y1 : Int32} {b2 : Nat} {w : MW} : mX (d + 1) 167 111 [.ref a0, .ref a1, .ref a2, mJ, mJ, mJ, mJ, mJ, mJ] [.int y0, .int y1, .ref b2] w = mThen (mK d 163 [.int y0, .int (nI 5)] w) (fun v w9 => mX (d + 1) 167 115 [.ref a0, .ref a1, .ref a2, mJ, mJ, mJ, mJ, mJ, mJ] (v.toList ++ [.int y1, .ref b2]) w9) := by
  refine Eq.trans (X_iconst f_167_111 kc_i_5) ?_
  refine Eq.trans (X_call f_167_112 (by decide) rfl rfl rfl rfl rfl rfl (Nat.le_of_ble_eq_true rfl) (Nat.le_of_ble_eq_true rfl) rfl (Nat.le_of_ble_eq_true rfl)) ?_
  exact mThen_eq fun v w9 => mX_maskK lm_167_115 rfl
theorem b_167_115 {d : Nat} {a0 : Nat} {a1 : Nat} {a2 : Nat} {y0 : Int32} {y1 : Int32} {b2 : Nat} {z0 : Nat} {w : MW} (h0 : (y1 + y0) = nI z0) (h1 : z0 < 2147483648) (h2 : z0 ≤ 134217728) : mX d 167 115 [.ref a0, .ref a1, .ref a2, mJ, mJ, mJ, mJ, mJ, mJ] [.int y0, .int y1, .ref b2] w = mX d 167 119 [.ref a0, .ref a1, .ref a2, mJ, mJ, mJ, mJ, mJ, mJ] [.ref (mSz w), .ref b2] (wN w 52 z0 z0) := by
  refine Eq.trans (X_st f_167_115 rfl rfl) ?_
  refine Eq.trans (X_newq f_167_116 (jnnE h0 h1) (jclE h0 h1) h2) ?_
  exact mX_maskK lm_167_119 rfl
theorem b_167_119 {d : Nat} {a0 : Nat} {a1 : Nat} {a2 : Nat} {b0 : Nat} {b1 : Nat} {w : MW} (h0 : mTg w b1 = 10) (h1 : mE ≤ b1) : mX d 167 119 [.ref a0, .ref a1, .ref a2, mJ, mJ, mJ, mJ, mJ, mJ] [.ref b0, .ref b1] w = mX d 167 122 [.ref a0, .ref a1, .ref a2, mJ, mJ, mJ, mJ, mJ, mJ] [] (wR w b1 9 (some b0)) := by
  refine Eq.trans (X_putR f_167_119 h0 h1 rfl) ?_
  exact mX_maskK lm_167_122 rfl
theorem b_167_122 {d : Nat} {a0 : Nat} {a1 : Nat} {a2 : Nat} {w : MW} : mX d 167 122 [.ref a0, .ref a1, .ref a2, mJ, mJ, mJ, mJ, mJ, mJ] [] w = mX d 167 124 [.ref a0, .ref a1, .ref a2, .int (nI 0), mJ, mJ, mJ, mJ, mJ] [] w := by
  refine Eq.trans (X_iconst f_167_122 kc_i_0) ?_
  refine Eq.trans (X_istore_n (L' := [.ref a0, .ref a1, .ref a2, .int (nI 0), mJ, mJ, mJ, mJ, mJ]) f_167_123 (Nat.le_of_ble_eq_true rfl) rfl) ?_
  exact mX_maskK lm_167_124 rfl
theorem b_167_124 {d : Nat} {a0 : Nat} {a1 : Nat} {a2 : Nat} {x3 : Int32} {w : MW} (h0 : mTg w a2 = 10) (h1 : mR w a2 9 = some (gR w a2 9)) (h2 : 50 ≤ mTg w (gR w a2 9) ∧ mTg w (gR w a2 9) < 55) : mX d 167 124 [.ref a0, .ref a1, .ref a2, .int x3, mJ, mJ, mJ, mJ, mJ] [] w = (if (nI (mLn w (gR w a2 9))) ≤ x3 then mX d 167 264 [.ref a0, .ref a1, .ref a2, mJ, mJ, mJ, mJ, mJ, mJ] [] w else mX d 167 133 [.ref a0, .ref a1, .ref a2, .int x3, mJ, mJ, mJ, mJ, mJ] [] w) := by
  refine Eq.trans (X_st f_167_124 rfl rfl) ?_
  refine Eq.trans (X_st f_167_125 rfl rfl) ?_
  refine Eq.trans (X_getR f_167_126 h0 rfl h1) ?_
  refine Eq.trans (X_st f_167_129 rfl (if_pos h2)) ?_
  refine Eq.trans (X_br f_167_130 rfl rfl) ?_
  exact mIte_eq (mX_maskK lm_167_264 rfl) (mX_maskK lm_167_133 rfl)
theorem b_167_133 {d : Nat} {a0 : Nat} {a1 : Nat} {a2 : Nat} {x3 : Int32} {w : MW} : mX (d + 1) 167 133 [.ref a0, .ref a1, .ref a2, .int x3, mJ, mJ, mJ, mJ, mJ] [] w = mThen (mK d 164 [.ref a0, .int (nI 1)] w) (fun v w9 => mX (d + 1) 167 138 [.ref a0, .ref a1, .ref a2, .int x3, mJ, mJ, mJ, mJ, mJ] (v.toList ++ []) w9) := by
  refine Eq.trans (X_st f_167_133 rfl rfl) ?_
  refine Eq.trans (X_iconst f_167_134 kc_i_1) ?_
  refine Eq.trans (X_call f_167_135 (by decide) rfl rfl rfl rfl rfl rfl (Nat.le_of_ble_eq_true rfl) (Nat.le_of_ble_eq_true rfl) rfl (Nat.le_of_ble_eq_true rfl)) ?_
  exact mThen_eq fun v w9 => mX_maskK lm_167_138 rfl
theorem b_167_138 {d : Nat} {a0 : Nat} {a1 : Nat} {a2 : Nat} {x3 : Int32} {y0 : Int32} {w : MW} (h0 : mTg w a2 = 10) (h1 : mR w a2 9 = some (gR w a2 9)) : mX d 167 138 [.ref a0, .ref a1, .ref a2, .int x3, mJ, mJ, mJ, mJ, mJ] [.int y0] w = mX d 167 154 [.ref a0, .ref a1, .ref a2, .int x3, .int (y0 >>> (((nI 2) + ((nI 3) * x3)) &&& 31)), mJ, mJ, mJ, mJ] [.ref (mSz w), .int x3, .ref (gR w a2 9)] (wN w 50 3 3) := by
  refine Eq.trans (X_iconst f_167_138 kc_i_2) ?_
  refine Eq.trans (X_iconst f_167_139 kc_i_3) ?_
  refine Eq.trans (X_st f_167_140 rfl rfl) ?_
  refine Eq.trans (X_st f_167_141 rfl rfl) ?_
  refine Eq.trans (X_st f_167_142 rfl rfl) ?_
  refine Eq.trans (X_st f_167_143 rfl rfl) ?_
  refine Eq.trans (X_istore (L' := [.ref a0, .ref a1, .ref a2, .int x3, .int (y0 >>> (((nI 2) + ((nI 3) * x3)) &&& 31)), mJ, mJ, mJ, mJ]) f_167_144 (Nat.le_of_ble_eq_true rfl) rfl) ?_
  refine Eq.trans (X_st f_167_146 rfl rfl) ?_
  refine Eq.trans (X_getR f_167_147 h0 rfl h1) ?_
  refine Eq.trans (X_st f_167_150 rfl rfl) ?_
  refine Eq.trans (X_iconst f_167_151 kc_i_3) ?_
  refine Eq.trans (X_newa f_167_152 kn_3 kl_3 (Nat.le_of_ble_eq_true rfl)) ?_
  exact mX_maskK lm_167_154 rfl
theorem b_167_154 {d : Nat} {a0 : Nat} {a1 : Nat} {a2 : Nat} {x3 : Int32} {x4 : Int32} {b0 : Nat} {y1 : Int32} {b2 : Nat} {w : MW} (h0 : mTg w a2 = 10) (h1 : mR w a2 8 = some (gR w a2 8)) (h2 : 50 ≤ mTg w (gR w a2 8) ∧ mTg w (gR w a2 8) < 55) : mX (d + 1) 167 154 [.ref a0, .ref a1, .ref a2, .int x3, .int x4, mJ, mJ, mJ, mJ] [.ref b0, .int y1, .ref b2] w = mThen (mK d 163 [.int x4, .int (nI (mLn w (gR w a2 8)))] w) (fun v w9 => mX (d + 1) 167 166 [.ref a0, .ref a1, .ref a2, .int x3, .int x4, mJ, mJ, mJ, mJ] (v.toList ++ [.int (nI 0), .ref b0, .ref b0, .int y1, .ref b2]) w9) := by
  refine Eq.trans (X_dup f_167_154 rfl) ?_
  refine Eq.trans (X_iconst f_167_155 kc_i_0) ?_
  refine Eq.trans (X_st f_167_156 rfl rfl) ?_
  refine Eq.trans (X_st f_167_158 rfl rfl) ?_
  refine Eq.trans (X_getR f_167_159 h0 rfl h1) ?_
  refine Eq.trans (X_st f_167_162 rfl (if_pos h2)) ?_
  refine Eq.trans (X_call f_167_163 (by decide) rfl rfl rfl rfl rfl rfl (Nat.le_of_ble_eq_true rfl) (Nat.le_of_ble_eq_true rfl) rfl (Nat.le_of_ble_eq_true rfl)) ?_
  exact mThen_eq fun v w9 => mX_maskK lm_167_166 rfl
theorem b_167_166 {d : Nat} {a0 : Nat} {a1 : Nat} {a2 : Nat} {x3 : Int32} {x4 : Int32} {y0 : Int32} {y1 : Nat} {b2 : Nat} {b3 : Nat} {y4 : Int32} {b5 : Nat} {w : MW} (h0 : mTg w b2 = 50) (h1 : mE ≤ b2) (h2 : y1 < 2147483648) (h3 : y1 < mLn w b2) : mX d 167 166 [.ref a0, .ref a1, .ref a2, .int x3, .int x4, mJ, mJ, mJ, mJ] [.int y0, .int (nI y1), .ref b2, .ref b3, .int y4, .ref b5] w = mX d 167 167 [.ref a0, .ref a1, .ref a2, .int x3, .int x4, mJ, mJ, mJ, mJ] [.ref b3, .int y4, .ref b5] (wI w b2 y1 y0) := by
  refine Eq.trans (X_iast f_167_166 h0 h1 (jnn h2) (jcl h2) h3) ?_
  exact mX_maskK lm_167_167 rfl
theorem b_167_167 {d : Nat} {a0 : Nat} {a1 : Nat} {a2 : Nat} {x3 : Int32} {x4 : Int32} {b0 : Nat} {y1 : Int32} {b2 : Nat} {w : MW} : mX (d + 1) 167 167 [.ref a0, .ref a1, .ref a2, .int x3, .int x4, mJ, mJ, mJ, mJ] [.ref b0, .int y1, .ref b2] w = mThen (mK d 163 [.int (x4 >>> ((nI 2) &&& 31)), .int (nI 9)] w) (fun v w9 => mX (d + 1) 167 179 [.ref a0, .ref a1, .ref a2, .int x3, .int x4, mJ, mJ, mJ, mJ] (v.toList ++ [.int (nI 1), .int (nI 1), .ref b0, .ref b0, .int y1, .ref b2]) w9) := by
  refine Eq.trans (X_dup f_167_167 rfl) ?_
  refine Eq.trans (X_iconst f_167_168 kc_i_1) ?_
  refine Eq.trans (X_iconst f_167_169 kc_i_1) ?_
  refine Eq.trans (X_st f_167_170 rfl rfl) ?_
  refine Eq.trans (X_iconst f_167_172 kc_i_2) ?_
  refine Eq.trans (X_st f_167_173 rfl rfl) ?_
  refine Eq.trans (X_bipush f_167_174 kc_b_9) ?_
  refine Eq.trans (X_call f_167_176 (by decide) rfl rfl rfl rfl rfl rfl (Nat.le_of_ble_eq_true rfl) (Nat.le_of_ble_eq_true rfl) rfl (Nat.le_of_ble_eq_true rfl)) ?_
  exact mThen_eq fun v w9 => mX_maskK lm_167_179 rfl
theorem b_167_179 {d : Nat} {a0 : Nat} {a1 : Nat} {a2 : Nat} {x3 : Int32} {x4 : Int32} {y0 : Int32} {y1 : Int32} {y2 : Nat} {b3 : Nat} {b4 : Nat} {y5 : Int32} {b6 : Nat} {w : MW} (h0 : mTg w b3 = 50) (h1 : mE ≤ b3) (h2 : y2 < 2147483648) (h3 : y2 < mLn w b3) : mX d 167 179 [.ref a0, .ref a1, .ref a2, .int x3, .int x4, mJ, mJ, mJ, mJ] [.int y0, .int y1, .int (nI y2), .ref b3, .ref b4, .int y5, .ref b6] w = mX d 167 181 [.ref a0, .ref a1, .ref a2, .int x3, .int x4, mJ, mJ, mJ, mJ] [.ref b4, .int y5, .ref b6] (wI w b3 y2 (y1 + y0)) := by
  refine Eq.trans (X_st f_167_179 rfl rfl) ?_
  refine Eq.trans (X_iast f_167_180 h0 h1 (jnn h2) (jcl h2) h3) ?_
  exact mX_maskK lm_167_181 rfl
theorem b_167_181 {d : Nat} {a0 : Nat} {a1 : Nat} {a2 : Nat} {x3 : Int32} {x4 : Int32} {b0 : Nat} {y1 : Int32} {b2 : Nat} {w : MW} : mX (d + 1) 167 181 [.ref a0, .ref a1, .ref a2, .int x3, .int x4, mJ, mJ, mJ, mJ] [.ref b0, .int y1, .ref b2] w = mThen (mK d 163 [.int (x4 >>> ((nI 1) &&& 31)), .int (nI 8)] w) (fun v w9 => mX (d + 1) 167 192 [.ref a0, .ref a1, .ref a2, .int x3, mJ, mJ, mJ, mJ, mJ] (v.toList ++ [.int (nI 2), .ref b0, .ref b0, .int y1, .ref b2]) w9) := by
  refine Eq.trans (X_dup f_167_181 rfl) ?_
  refine Eq.trans (X_iconst f_167_182 kc_i_2) ?_
  refine Eq.trans (X_st f_167_183 rfl rfl) ?_
  refine Eq.trans (X_iconst f_167_185 kc_i_1) ?_
  refine Eq.trans (X_st f_167_186 rfl rfl) ?_
  refine Eq.trans (X_bipush f_167_187 kc_b_8) ?_
  refine Eq.trans (X_call f_167_189 (by decide) rfl rfl rfl rfl rfl rfl (Nat.le_of_ble_eq_true rfl) (Nat.le_of_ble_eq_true rfl) rfl (Nat.le_of_ble_eq_true rfl)) ?_
  exact mThen_eq fun v w9 => mX_maskK lm_167_192 rfl
theorem b_167_192 {d : Nat} {a0 : Nat} {a1 : Nat} {a2 : Nat} {x3 : Int32} {y0 : Int32} {y1 : Nat} {b2 : Nat} {b3 : Nat} {y4 : Int32} {b5 : Nat} {w : MW} (h0 : mTg w b2 = 50) (h1 : mE ≤ b2) (h2 : y1 < 2147483648) (h3 : y1 < mLn w b2) : mX d 167 192 [.ref a0, .ref a1, .ref a2, .int x3, mJ, mJ, mJ, mJ, mJ] [.int y0, .int (nI y1), .ref b2, .ref b3, .int y4, .ref b5] w = mX d 167 193 [.ref a0, .ref a1, .ref a2, .int x3, mJ, mJ, mJ, mJ, mJ] [.ref b3, .int y4, .ref b5] (wI w b2 y1 y0) := by
  refine Eq.trans (X_iast f_167_192 h0 h1 (jnn h2) (jcl h2) h3) ?_
  exact mX_maskK lm_167_193 rfl
theorem b_167_193 {d : Nat} {a0 : Nat} {a1 : Nat} {a2 : Nat} {x3 : Int32} {b0 : Nat} {y1 : Nat} {b2 : Nat} {w : MW} (h0 : mTg w b2 = 52 ∧ mTg w b0 = 50 ∧ mE ≤ b0 ∨ mTg w b2 = 53 ∧ mTg w b0 = 4 ∨ mTg w b2 = 54 ∧ mTg w b0 = 11) (h1 : y1 < 2147483648) (h2 : y1 < mLn w b2) : mX d 167 193 [.ref a0, .ref a1, .ref a2, .int x3, mJ, mJ, mJ, mJ, mJ] [.ref b0, .int (nI y1), .ref b2] w = mX d 167 194 [.ref a0, .ref a1, .ref a2, .int x3, mJ, mJ, mJ, mJ, mJ] [] (wR w b2 y1 (some b0)) := by
  refine Eq.trans (X_aast f_167_193 h0 (jnn h1) (jcl h1) h2) ?_
  exact mX_maskK lm_167_194 rfl
theorem b_167_194 {d : Nat} {a0 : Nat} {a1 : Nat} {a2 : Nat} {x3 : Int32} {w : MW} (h0 : mTg w a1 = 12) : mX (d + 1) 167 194 [.ref a0, .ref a1, .ref a2, .int x3, mJ, mJ, mJ, mJ, mJ] [] w = mThen (mK d 159 [.ref a1, .ref 122] w) (fun v w9 => mX (d + 1) 167 200 [.ref a0, .ref a1, .ref a2, .int x3, mJ, mJ, mJ, mJ, mJ] (v.toList ++ []) w9) := by
  refine Eq.trans (X_st f_167_194 rfl rfl) ?_
  refine Eq.trans (X_st f_167_195 rfl rfl) ?_
  refine Eq.trans (X_call f_167_197 (by decide) rfl rfl rfl rfl rfl rfl (Nat.le_of_ble_eq_true rfl) (Nat.le_of_ble_eq_true rfl) (decide_eq_true h0) (Nat.le_of_ble_eq_true rfl)) ?_
  exact mThen_eq fun v w9 => mX_maskK lm_167_200 rfl
theorem b_167_200 {d : Nat} {a0 : Nat} {a1 : Nat} {a2 : Nat} {x3 : Int32} {b0 : Nat} {w : MW} (h0 : mTg w b0 = 12) : mX (d + 1) 167 200 [.ref a0, .ref a1, .ref a2, .int x3, mJ, mJ, mJ, mJ, mJ] [.ref b0] w = mThen (mK d 160 [.ref b0, .int x3] w) (fun v w9 => mX (d + 1) 167 204 [.ref a0, .ref a1, .ref a2, .int x3, mJ, mJ, mJ, mJ, mJ] (v.toList ++ []) w9) := by
  refine Eq.trans (X_st f_167_200 rfl rfl) ?_
  refine Eq.trans (X_call f_167_201 (by decide) rfl rfl rfl rfl rfl rfl (Nat.le_of_ble_eq_true rfl) (Nat.le_of_ble_eq_true rfl) (decide_eq_true h0) (Nat.le_of_ble_eq_true rfl)) ?_
  exact mThen_eq fun v w9 => mX_maskK lm_167_204 rfl
theorem b_167_204 {d : Nat} {a0 : Nat} {a1 : Nat} {a2 : Nat} {x3 : Int32} {b0 : Nat} {w : MW} (h0 : mTg w b0 = 12) : mX (d + 1) 167 204 [.ref a0, .ref a1, .ref a2, .int x3, mJ, mJ, mJ, mJ, mJ] [.ref b0] w = mThen (mK d 159 [.ref b0, .ref 124] w) (fun v w9 => mX (d + 1) 167 209 [.ref a0, .ref a1, .ref a2, .int x3, mJ, mJ, mJ, mJ, mJ] (v.toList ++ []) w9) := by
  refine Eq.trans (X_st f_167_204 rfl rfl) ?_
  refine Eq.trans (X_call f_167_206 (by decide) rfl rfl rfl rfl rfl rfl (Nat.le_of_ble_eq_true rfl) (Nat.le_of_ble_eq_true rfl) (decide_eq_true h0) (Nat.le_of_ble_eq_true rfl)) ?_
  exact mThen_eq fun v w9 => mX_maskK lm_167_209 rfl
theorem b_167_209 {d : Nat} {a0 : Nat} {a1 : Nat} {a2 : Nat} {x3 : Nat} {b0 : Nat} {w : MW} (h0 : mTg w a2 = 10) (h1 : mR w a2 9 = some (gR w a2 9)) (h2 : 52 ≤ mTg w (gR w a2 9) ∧ mTg w (gR w a2 9) < 55) (h3 : x3 < 2147483648) (h4 : x3 < mLn w (gR w a2 9)) (h5 : mR w (gR w a2 9) x3 = some (gR w (gR w a2 9) x3)) (h6 : mTg w (gR w (gR w a2 9) x3) = 50) (h7 : 0 < mLn w (gR w (gR w a2 9) x3)) (h8 : mTg w b0 = 12) : mX (d + 1) 167 209 [.ref a0, .ref a1, .ref a2, .int (nI x3), mJ, mJ, mJ, mJ, mJ] [.ref b0] w = mThen (mK d 160 [.ref b0, .int (mI w (gR w (gR w a2 9) x3) 0)] w) (fun v w9 => mX (d + 1) 167 220 [.ref a0, .ref a1, .ref a2, .int (nI x3), mJ, mJ, mJ, mJ, mJ] (v.toList ++ []) w9) := by
  refine Eq.trans (X_st f_167_209 rfl rfl) ?_
  refine Eq.trans (X_getR f_167_210 h0 rfl h1) ?_
  refine Eq.trans (X_st f_167_213 rfl rfl) ?_
  refine Eq.trans (X_aald f_167_214 h2 (jnn h3) (jcl h3) h4 h5) ?_
  refine Eq.trans (X_iconst f_167_215 kc_i_0) ?_
  refine Eq.trans (X_iald f_167_216 h6 kn_0 kl_0 h7) ?_
  refine Eq.trans (X_call f_167_217 (by decide) rfl rfl rfl rfl rfl rfl (Nat.le_of_ble_eq_true rfl) (Nat.le_of_ble_eq_true rfl) (decide_eq_true h8) (Nat.le_of_ble_eq_true rfl)) ?_
  exact mThen_eq fun v w9 => mX_maskK lm_167_220 rfl
theorem b_167_220 {d : Nat} {a0 : Nat} {a1 : Nat} {a2 : Nat} {x3 : Int32} {b0 : Nat} {w : MW} (h0 : mTg w b0 = 12) : mX (d + 1) 167 220 [.ref a0, .ref a1, .ref a2, .int x3, mJ, mJ, mJ, mJ, mJ] [.ref b0] w = mThen (mK d 159 [.ref b0, .ref 126] w) (fun v w9 => mX (d + 1) 167 225 [.ref a0, .ref a1, .ref a2, .int x3, mJ, mJ, mJ, mJ, mJ] (v.toList ++ []) w9) := by
  refine Eq.trans (X_st f_167_220 rfl rfl) ?_
  refine Eq.trans (X_call f_167_222 (by decide) rfl rfl rfl rfl rfl rfl (Nat.le_of_ble_eq_true rfl) (Nat.le_of_ble_eq_true rfl) (decide_eq_true h0) (Nat.le_of_ble_eq_true rfl)) ?_
  exact mThen_eq fun v w9 => mX_maskK lm_167_225 rfl
theorem b_167_225 {d : Nat} {a0 : Nat} {a1 : Nat} {a2 : Nat} {x3 : Nat} {b0 : Nat} {w : MW} (h0 : mTg w a2 = 10) (h1 : mR w a2 9 = some (gR w a2 9)) (h2 : 52 ≤ mTg w (gR w a2 9) ∧ mTg w (gR w a2 9) < 55) (h3 : x3 < 2147483648) (h4 : x3 < mLn w (gR w a2 9)) (h5 : mR w (gR w a2 9) x3 = some (gR w (gR w a2 9) x3)) (h6 : mTg w (gR w (gR w a2 9) x3) = 50) (h7 : 1 < mLn w (gR w (gR w a2 9) x3)) (h8 : mTg w b0 = 12) : mX (d + 1) 167 225 [.ref a0, .ref a1, .ref a2, .int (nI x3), mJ, mJ, mJ, mJ, mJ] [.ref b0] w = mThen (mK d 160 [.ref b0, .int (mI w (gR w (gR w a2 9) x3) 1)] w) (fun v w9 => mX (d + 1) 167 236 [.ref a0, .ref a1, .ref a2, .int (nI x3), mJ, mJ, mJ, mJ, mJ] (v.toList ++ []) w9) := by
  refine Eq.trans (X_st f_167_225 rfl rfl) ?_
  refine Eq.trans (X_getR f_167_226 h0 rfl h1) ?_
  refine Eq.trans (X_st f_167_229 rfl rfl) ?_
  refine Eq.trans (X_aald f_167_230 h2 (jnn h3) (jcl h3) h4 h5) ?_
  refine Eq.trans (X_iconst f_167_231 kc_i_1) ?_
  refine Eq.trans (X_iald f_167_232 h6 kn_1 kl_1 h7) ?_
  refine Eq.trans (X_call f_167_233 (by decide) rfl rfl rfl rfl rfl rfl (Nat.le_of_ble_eq_true rfl) (Nat.le_of_ble_eq_true rfl) (decide_eq_true h8) (Nat.le_of_ble_eq_true rfl)) ?_
  exact mThen_eq fun v w9 => mX_maskK lm_167_236 rfl
theorem b_167_236 {d : Nat} {a0 : Nat} {a1 : Nat} {a2 : Nat} {x3 : Int32} {b0 : Nat} {w : MW} (h0 : mTg w b0 = 12) : mX (d + 1) 167 236 [.ref a0, .ref a1, .ref a2, .int x3, mJ, mJ, mJ, mJ, mJ] [.ref b0] w = mThen (mK d 159 [.ref b0, .ref 128] w) (fun v w9 => mX (d + 1) 167 241 [.ref a0, .ref a1, .ref a2, .int x3, mJ, mJ, mJ, mJ, mJ] (v.toList ++ []) w9) := by
  refine Eq.trans (X_st f_167_236 rfl rfl) ?_
  refine Eq.trans (X_call f_167_238 (by decide) rfl rfl rfl rfl rfl rfl (Nat.le_of_ble_eq_true rfl) (Nat.le_of_ble_eq_true rfl) (decide_eq_true h0) (Nat.le_of_ble_eq_true rfl)) ?_
  exact mThen_eq fun v w9 => mX_maskK lm_167_241 rfl
theorem b_167_241 {d : Nat} {a0 : Nat} {a1 : Nat} {a2 : Nat} {x3 : Nat} {b0 : Nat} {w : MW} (h0 : mTg w a2 = 10) (h1 : mR w a2 9 = some (gR w a2 9)) (h2 : 52 ≤ mTg w (gR w a2 9) ∧ mTg w (gR w a2 9) < 55) (h3 : x3 < 2147483648) (h4 : x3 < mLn w (gR w a2 9)) (h5 : mR w (gR w a2 9) x3 = some (gR w (gR w a2 9) x3)) (h6 : mTg w (gR w (gR w a2 9) x3) = 50) (h7 : 2 < mLn w (gR w (gR w a2 9) x3)) (h8 : mTg w b0 = 12) : mX (d + 1) 167 241 [.ref a0, .ref a1, .ref a2, .int (nI x3), mJ, mJ, mJ, mJ, mJ] [.ref b0] w = mThen (mK d 160 [.ref b0, .int (mI w (gR w (gR w a2 9) x3) 2)] w) (fun v w9 => mX (d + 1) 167 252 [.ref a0, .ref a1, .ref a2, .int (nI x3), mJ, mJ, mJ, mJ, mJ] (v.toList ++ []) w9) := by
  refine Eq.trans (X_st f_167_241 rfl rfl) ?_
  refine Eq.trans (X_getR f_167_242 h0 rfl h1) ?_
  refine Eq.trans (X_st f_167_245 rfl rfl) ?_
  refine Eq.trans (X_aald f_167_246 h2 (jnn h3) (jcl h3) h4 h5) ?_
  refine Eq.trans (X_iconst f_167_247 kc_i_2) ?_
  refine Eq.trans (X_iald f_167_248 h6 kn_2 kl_2 h7) ?_
  refine Eq.trans (X_call f_167_249 (by decide) rfl rfl rfl rfl rfl rfl (Nat.le_of_ble_eq_true rfl) (Nat.le_of_ble_eq_true rfl) (decide_eq_true h8) (Nat.le_of_ble_eq_true rfl)) ?_
  exact mThen_eq fun v w9 => mX_maskK lm_167_252 rfl
theorem b_167_252 {d : Nat} {a0 : Nat} {a1 : Nat} {a2 : Nat} {x3 : Int32} {b0 : Nat} {w : MW} (h0 : mTg w b0 = 12) : mX (d + 1) 167 252 [.ref a0, .ref a1, .ref a2, .int x3, mJ, mJ, mJ, mJ, mJ] [.ref b0] w = mThen (mK d 159 [.ref b0, .ref 118] w) (fun v w9 => mX (d + 1) 167 257 [.ref a0, .ref a1, .ref a2, .int x3, mJ, mJ, mJ, mJ, mJ] (v.toList ++ []) w9) := by
  refine Eq.trans (X_st f_167_252 rfl rfl) ?_
  refine Eq.trans (X_call f_167_254 (by decide) rfl rfl rfl rfl rfl rfl (Nat.le_of_ble_eq_true rfl) (Nat.le_of_ble_eq_true rfl) (decide_eq_true h0) (Nat.le_of_ble_eq_true rfl)) ?_
  exact mThen_eq fun v w9 => mX_maskK lm_167_257 rfl
theorem b_167_257 {d : Nat} {a0 : Nat} {a1 : Nat} {a2 : Nat} {x3 : Int32} {b0 : Nat} {w : MW} : mX d 167 257 [.ref a0, .ref a1, .ref a2, .int x3, mJ, mJ, mJ, mJ, mJ] [.ref b0] w = mX d 167 124 [.ref a0, .ref a1, .ref a2, .int (x3 + (nI 1)), mJ, mJ, mJ, mJ, mJ] [] w := by
  refine Eq.trans (X_pop f_167_257 rfl) ?_
  refine Eq.trans (X_iinc f_167_258 kc_i_1 rfl rfl) ?_
  refine Eq.trans (X_st f_167_261 rfl rfl) ?_
  exact mX_maskK lm_167_124 rfl
theorem b_167_264 {d : Nat} {a0 : Nat} {a1 : Nat} {a2 : Nat} {w : MW} : mX (d + 1) 167 264 [.ref a0, .ref a1, .ref a2, mJ, mJ, mJ, mJ, mJ, mJ] [] w = mThen (mK d 164 [.ref a0, .int (nI 2)] w) (fun v w9 => mX (d + 1) 167 271 [.ref a0, .ref a1, .ref a2, mJ, mJ, mJ, mJ, mJ, mJ] (v.toList ++ [.int (nI 2), .ref a2]) w9) := by
  refine Eq.trans (X_st f_167_264 rfl rfl) ?_
  refine Eq.trans (X_iconst f_167_265 kc_i_2) ?_
  refine Eq.trans (X_st f_167_266 rfl rfl) ?_
  refine Eq.trans (X_iconst f_167_267 kc_i_2) ?_
  refine Eq.trans (X_call f_167_268 (by decide) rfl rfl rfl rfl rfl rfl (Nat.le_of_ble_eq_true rfl) (Nat.le_of_ble_eq_true rfl) rfl (Nat.le_of_ble_eq_true rfl)) ?_
  exact mThen_eq fun v w9 => mX_maskK lm_167_271 rfl
theorem b_167_271 {d : Nat} {a0 : Nat} {a1 : Nat} {a2 : Nat} {y0 : Int32} {y1 : Int32} {b2 : Nat} {w : MW} : mX (d + 1) 167 271 [.ref a0, .ref a1, .ref a2, mJ, mJ, mJ, mJ, mJ, mJ] [.int y0, .int y1, .ref b2] w = mThen (mK d 163 [.int y0, .int (nI 5)] w) (fun v w9 => mX (d + 1) 167 275 [.ref a0, .ref a1, .ref a2, mJ, mJ, mJ, mJ, mJ, mJ] (v.toList ++ [.int y1, .ref b2]) w9) := by
  refine Eq.trans (X_iconst f_167_271 kc_i_5) ?_
  refine Eq.trans (X_call f_167_272 (by decide) rfl rfl rfl rfl rfl rfl (Nat.le_of_ble_eq_true rfl) (Nat.le_of_ble_eq_true rfl) rfl (Nat.le_of_ble_eq_true rfl)) ?_
  exact mThen_eq fun v w9 => mX_maskK lm_167_275 rfl
theorem b_167_275 {d : Nat} {a0 : Nat} {a1 : Nat} {a2 : Nat} {y0 : Int32} {y1 : Int32} {b2 : Nat} {z0 : Nat} {w : MW} (h0 : (y1 + y0) = nI z0) (h1 : z0 < 2147483648) (h2 : z0 ≤ 134217728) : mX d 167 275 [.ref a0, .ref a1, .ref a2, mJ, mJ, mJ, mJ, mJ, mJ] [.int y0, .int y1, .ref b2] w = mX d 167 279 [.ref a0, .ref a1, .ref a2, mJ, mJ, mJ, mJ, mJ, mJ] [.ref (mSz w), .ref b2] (wN w 52 z0 z0) := by
  refine Eq.trans (X_st f_167_275 rfl rfl) ?_
  refine Eq.trans (X_newq f_167_276 (jnnE h0 h1) (jclE h0 h1) h2) ?_
  exact mX_maskK lm_167_279 rfl
theorem b_167_279 {d : Nat} {a0 : Nat} {a1 : Nat} {a2 : Nat} {b0 : Nat} {b1 : Nat} {w : MW} (h0 : mTg w b1 = 10) (h1 : mE ≤ b1) : mX d 167 279 [.ref a0, .ref a1, .ref a2, mJ, mJ, mJ, mJ, mJ, mJ] [.ref b0, .ref b1] w = mX d 167 282 [.ref a0, .ref a1, .ref a2, mJ, mJ, mJ, mJ, mJ, mJ] [] (wR w b1 10 (some b0)) := by
  refine Eq.trans (X_putR f_167_279 h0 h1 rfl) ?_
  exact mX_maskK lm_167_282 rfl
theorem b_167_282 {d : Nat} {a0 : Nat} {a1 : Nat} {a2 : Nat} {z0 : Nat} {w : MW} (h0 : mTg w a2 = 10) (h1 : mR w a2 10 = some (gR w a2 10)) (h2 : 50 ≤ mTg w (gR w a2 10) ∧ mTg w (gR w a2 10) < 55) (h3 : (nI (mLn w (gR w a2 10))) = nI z0) (h4 : z0 < 2147483648) (h5 : z0 ≤ 134217728) : mX d 167 282 [.ref a0, .ref a1, .ref a2, mJ, mJ, mJ, mJ, mJ, mJ] [] w = mX d 167 293 [.ref a0, .ref a1, .ref a2, mJ, mJ, mJ, mJ, mJ, mJ] [.ref (mSz w), .ref a2] (wM w z0 2) := by
  refine Eq.trans (X_st f_167_282 rfl rfl) ?_
  refine Eq.trans (X_st f_167_283 rfl rfl) ?_
  refine Eq.trans (X_getR f_167_284 h0 rfl h1) ?_
  refine Eq.trans (X_st f_167_287 rfl (if_pos h2)) ?_
  refine Eq.trans (X_iconst f_167_288 kc_i_2) ?_
  refine Eq.trans (X_newm f_167_289 (jnnE h3 h4) (jclE h3 h4) h5 kn_2 kl_2 (Nat.le_of_ble_eq_true rfl)) ?_
  exact mX_maskK lm_167_293 rfl
theorem b_167_293 {d : Nat} {a0 : Nat} {a1 : Nat} {a2 : Nat} {b0 : Nat} {b1 : Nat} {w : MW} (h0 : mTg w b1 = 10) (h1 : mE ≤ b1) : mX d 167 293 [.ref a0, .ref a1, .ref a2, mJ, mJ, mJ, mJ, mJ, mJ] [.ref b0, .ref b1] w = mX d 167 296 [.ref a0, .ref a1, .ref a2, mJ, mJ, mJ, mJ, mJ, mJ] [] (wR w b1 11 (some b0)) := by
  refine Eq.trans (X_putR f_167_293 h0 h1 rfl) ?_
  exact mX_maskK lm_167_296 rfl
theorem b_167_296 {d : Nat} {a0 : Nat} {a1 : Nat} {a2 : Nat} {w : MW} : mX d 167 296 [.ref a0, .ref a1, .ref a2, mJ, mJ, mJ, mJ, mJ, mJ] [] w = mX d 167 298 [.ref a0, .ref a1, .ref a2, .int (nI 0), mJ, mJ, mJ, mJ, mJ] [] w := by
  refine Eq.trans (X_iconst f_167_296 kc_i_0) ?_
  refine Eq.trans (X_istore_n (L' := [.ref a0, .ref a1, .ref a2, .int (nI 0), mJ, mJ, mJ, mJ, mJ]) f_167_297 (Nat.le_of_ble_eq_true rfl) rfl) ?_
  exact mX_maskK lm_167_298 rfl
theorem b_167_298 {d : Nat} {a0 : Nat} {a1 : Nat} {a2 : Nat} {x3 : Int32} {w : MW} (h0 : mTg w a2 = 10) (h1 : mR w a2 10 = some (gR w a2 10)) (h2 : 50 ≤ mTg w (gR w a2 10) ∧ mTg w (gR w a2 10) < 55) : mX d 167 298 [.ref a0, .ref a1, .ref a2, .int x3, mJ, mJ, mJ, mJ, mJ] [] w = (if (nI (mLn w (gR w a2 10))) ≤ x3 then mX d 167 441 [.ref a0, .ref a1, .ref a2, mJ, mJ, mJ, mJ, mJ, mJ] [] w else mX d 167 307 [.ref a0, .ref a1, .ref a2, .int x3, mJ, mJ, mJ, mJ, mJ] [] w) := by
  refine Eq.trans (X_st f_167_298 rfl rfl) ?_
  refine Eq.trans (X_st f_167_299 rfl rfl) ?_
  refine Eq.trans (X_getR f_167_300 h0 rfl h1) ?_
  refine Eq.trans (X_st f_167_303 rfl (if_pos h2)) ?_
  refine Eq.trans (X_br f_167_304 rfl rfl) ?_
  exact mIte_eq (mX_maskK lm_167_441 rfl) (mX_maskK lm_167_307 rfl)
theorem b_167_307 {d : Nat} {a0 : Nat} {a1 : Nat} {a2 : Nat} {x3 : Int32} {w : MW} : mX (d + 1) 167 307 [.ref a0, .ref a1, .ref a2, .int x3, mJ, mJ, mJ, mJ, mJ] [] w = mThen (mK d 164 [.ref a0, .int (nI 2)] w) (fun v w9 => mX (d + 1) 167 312 [.ref a0, .ref a1, .ref a2, .int x3, mJ, mJ, mJ, mJ, mJ] (v.toList ++ []) w9) := by
  refine Eq.trans (X_st f_167_307 rfl rfl) ?_
  refine Eq.trans (X_iconst f_167_308 kc_i_2) ?_
  refine Eq.trans (X_call f_167_309 (by decide) rfl rfl rfl rfl rfl rfl (Nat.le_of_ble_eq_true rfl) (Nat.le_of_ble_eq_true rfl) rfl (Nat.le_of_ble_eq_true rfl)) ?_
  exact mThen_eq fun v w9 => mX_maskK lm_167_312 rfl
theorem b_167_312 {d : Nat} {a0 : Nat} {a1 : Nat} {a2 : Nat} {x3 : Int32} {y0 : Int32} {w : MW} (h0 : mTg w a2 = 10) (h1 : mR w a2 10 = some (gR w a2 10)) : mX (d + 1) 167 312 [.ref a0, .ref a1, .ref a2, .int x3, mJ, mJ, mJ, mJ, mJ] [.int y0] w = mThen (mK d 163 [.int ((y0 >>> (((nI 2) + ((nI 3) * x3)) &&& 31)) >>> ((nI 3) &&& 31)), .int (nI 4)] w) (fun v w9 => mX (d + 1) 167 337 [.ref a0, .ref a1, .ref a2, .int x3, .int (y0 >>> (((nI 2) + ((nI 3) * x3)) &&& 31)), mJ, mJ, mJ, mJ] (v.toList ++ [.int (nI 1), .int (y0 >>> (((nI 2) + ((nI 3) * x3)) &&& 31)), .int (nI 1), .int x3, .ref (gR w a2 10)]) w9) := by
  refine Eq.trans (X_iconst f_167_312 kc_i_2) ?_
  refine Eq.trans (X_iconst f_167_313 kc_i_3) ?_
  refine Eq.trans (X_st f_167_314 rfl rfl) ?_
  refine Eq.trans (X_st f_167_315 rfl rfl) ?_
  refine Eq.trans (X_st f_167_316 rfl rfl) ?_
  refine Eq.trans (X_st f_167_317 rfl rfl) ?_
  refine Eq.trans (X_istore (L' := [.ref a0, .ref a1, .ref a2, .int x3, .int (y0 >>> (((nI 2) + ((nI 3) * x3)) &&& 31)), mJ, mJ, mJ, mJ]) f_167_318 (Nat.le_of_ble_eq_true rfl) rfl) ?_
  refine Eq.trans (X_st f_167_320 rfl rfl) ?_
  refine Eq.trans (X_getR f_167_321 h0 rfl h1) ?_
  refine Eq.trans (X_st f_167_324 rfl rfl) ?_
  refine Eq.trans (X_iconst f_167_325 kc_i_1) ?_
  refine Eq.trans (X_st f_167_326 rfl rfl) ?_
  refine Eq.trans (X_iconst f_167_328 kc_i_1) ?_
  refine Eq.trans (X_st f_167_329 rfl rfl) ?_
  refine Eq.trans (X_iconst f_167_331 kc_i_3) ?_
  refine Eq.trans (X_st f_167_332 rfl rfl) ?_
  refine Eq.trans (X_iconst f_167_333 kc_i_4) ?_
  refine Eq.trans (X_call f_167_334 (by decide) rfl rfl rfl rfl rfl rfl (Nat.le_of_ble_eq_true rfl) (Nat.le_of_ble_eq_true rfl) rfl (Nat.le_of_ble_eq_true rfl)) ?_
  exact mThen_eq fun v w9 => mX_maskK lm_167_337 rfl
theorem b_167_337 {d : Nat} {a0 : Nat} {a1 : Nat} {a2 : Nat} {x3 : Int32} {x4 : Int32} {y0 : Int32} {y1 : Int32} {y2 : Int32} {y3 : Int32} {y4 : Int32} {b5 : Nat} {w : MW} : mX (d + 1) 167 337 [.ref a0, .ref a1, .ref a2, .int x3, .int x4, mJ, mJ, mJ, mJ] [.int y0, .int y1, .int y2, .int y3, .int y4, .ref b5] w = mThen (mK d 163 [.int y2, .int (y1 + y0)] w) (fun v w9 => mX (d + 1) 167 341 [.ref a0, .ref a1, .ref a2, .int x3, .int x4, mJ, mJ, mJ, mJ] (v.toList ++ [.int y3, .int y4, .ref b5]) w9) := by
  refine Eq.trans (X_st f_167_337 rfl rfl) ?_
  refine Eq.trans (X_call f_167_338 (by decide) rfl rfl rfl rfl rfl rfl (Nat.le_of_ble_eq_true rfl) (Nat.le_of_ble_eq_true rfl) rfl (Nat.le_of_ble_eq_true rfl)) ?_
  exact mThen_eq fun v w9 => mX_maskK lm_167_341 rfl
theorem b_167_341 {d : Nat} {a0 : Nat} {a1 : Nat} {a2 : Nat} {x3 : Int32} {x4 : Int32} {y0 : Int32} {y1 : Int32} {y2 : Int32} {b3 : Nat} {z0 : Nat} {w : MW} (h0 : (y1 + y0) = nI z0) (h1 : z0 < 2147483648) (h2 : z0 ≤ 134217728) : mX d 167 341 [.ref a0, .ref a1, .ref a2, .int x3, .int x4, mJ, mJ, mJ, mJ] [.int y0, .int y1, .int y2, .ref b3] w = mX d 167 344 [.ref a0, .ref a1, .ref a2, .int x3, .int x4, mJ, mJ, mJ, mJ] [.ref (mSz w), .int y2, .ref b3] (wN w 50 z0 z0) := by
  refine Eq.trans (X_st f_167_341 rfl rfl) ?_
  refine Eq.trans (X_newa f_167_342 (jnnE h0 h1) (jclE h0 h1) h2) ?_
  exact mX_maskK lm_167_344 rfl
theorem b_167_344 {d : Nat} {a0 : Nat} {a1 : Nat} {a2 : Nat} {x3 : Int32} {x4 : Int32} {b0 : Nat} {y1 : Nat} {b2 : Nat} {w : MW} (h0 : mTg w b2 = 52 ∧ mTg w b0 = 50 ∧ mE ≤ b0 ∨ mTg w b2 = 53 ∧ mTg w b0 = 4 ∨ mTg w b2 = 54 ∧ mTg w b0 = 11) (h1 : y1 < 2147483648) (h2 : y1 < mLn w b2) : mX d 167 344 [.ref a0, .ref a1, .ref a2, .int x3, .int x4, mJ, mJ, mJ, mJ] [.ref b0, .int (nI y1), .ref b2] w = mX d 167 345 [.ref a0, .ref a1, .ref a2, .int x3, .int x4, mJ, mJ, mJ, mJ] [] (wR w b2 y1 (some b0)) := by
  refine Eq.trans (X_aast f_167_344 h0 (jnn h1) (jcl h1) h2) ?_
  exact mX_maskK lm_167_345 rfl
theorem b_167_345 {d : Nat} {a0 : Nat} {a1 : Nat} {a2 : Nat} {x3 : Int32} {x4 : Int32} {w : MW} (h0 : mTg w a1 = 12) : mX (d + 1) 167 345 [.ref a0, .ref a1, .ref a2, .int x3, .int x4, mJ, mJ, mJ, mJ] [] w = mThen (mK d 159 [.ref a1, .ref 130] w) (fun v w9 => mX (d + 1) 167 351 [.ref a0, .ref a1, .ref a2, .int x3, .int x4, mJ, mJ, mJ, mJ] (v.toList ++ []) w9) := by
  refine Eq.trans (X_st f_167_345 rfl rfl) ?_
  refine Eq.trans (X_st f_167_346 rfl rfl) ?_
  refine Eq.trans (X_call f_167_348 (by decide) rfl rfl rfl rfl rfl rfl (Nat.le_of_ble_eq_true rfl) (Nat.le_of_ble_eq_true rfl) (decide_eq_true h0) (Nat.le_of_ble_eq_true rfl)) ?_
  exact mThen_eq fun v w9 => mX_maskK lm_167_351 rfl
theorem b_167_351 {d : Nat} {a0 : Nat} {a1 : Nat} {a2 : Nat} {x3 : Int32} {x4 : Int32} {b0 : Nat} {w : MW} (h0 : mTg w b0 = 12) : mX (d + 1) 167 351 [.ref a0, .ref a1, .ref a2, .int x3, .int x4, mJ, mJ, mJ, mJ] [.ref b0] w = mThen (mK d 160 [.ref b0, .int x3] w) (fun v w9 => mX (d + 1) 167 355 [.ref a0, .ref a1, .ref a2, .int x3, .int x4, mJ, mJ, mJ, mJ] (v.toList ++ []) w9) := by
  refine Eq.trans (X_st f_167_351 rfl rfl) ?_
  refine Eq.trans (X_call f_167_352 (by decide) rfl rfl rfl rfl rfl rfl (Nat.le_of_ble_eq_true rfl) (Nat.le_of_ble_eq_true rfl) (decide_eq_true h0) (Nat.le_of_ble_eq_true rfl)) ?_
  exact mThen_eq fun v w9 => mX_maskK lm_167_355 rfl
theorem b_167_355 {d : Nat} {a0 : Nat} {a1 : Nat} {a2 : Nat} {x3 : Int32} {x4 : Int32} {b0 : Nat} {w : MW} (h0 : mTg w b0 = 12) : mX (d + 1) 167 355 [.ref a0, .ref a1, .ref a2, .int x3, .int x4, mJ, mJ, mJ, mJ] [.ref b0] w = mThen (mK d 159 [.ref b0, .ref 132] w) (fun v w9 => mX (d + 1) 167 360 [.ref a0, .ref a1, .ref a2, .int x3, .int x4, mJ, mJ, mJ, mJ] (v.toList ++ []) w9) := by
  refine Eq.trans (X_st f_167_355 rfl rfl) ?_
  refine Eq.trans (X_call f_167_357 (by decide) rfl rfl rfl rfl rfl rfl (Nat.le_of_ble_eq_true rfl) (Nat.le_of_ble_eq_true rfl) (decide_eq_true h0) (Nat.le_of_ble_eq_true rfl)) ?_
  exact mThen_eq fun v w9 => mX_maskK lm_167_360 rfl
theorem b_167_360 {d : Nat} {a0 : Nat} {a1 : Nat} {a2 : Nat} {x3 : Int32} {x4 : Int32} {b0 : Nat} {w : MW} : mX d 167 360 [.ref a0, .ref a1, .ref a2, .int x3, .int x4, mJ, mJ, mJ, mJ] [.ref b0] w = mX d 167 364 [.ref a0, .ref a1, .ref a2, .int x3, .int x4, .int (nI 0), mJ, mJ, mJ] [] w := by
  refine Eq.trans (X_pop f_167_360 rfl) ?_
  refine Eq.trans (X_iconst f_167_361 kc_i_0) ?_
  refine Eq.trans (X_istore (L' := [.ref a0, .ref a1, .ref a2, .int x3, .int x4, .int (nI 0), mJ, mJ, mJ]) f_167_362 (Nat.le_of_ble_eq_true rfl) rfl) ?_
  exact mX_maskK lm_167_364 rfl
theorem b_167_364 {d : Nat} {a0 : Nat} {a1 : Nat} {a2 : Nat} {x3 : Nat} {x4 : Int32} {x5 : Int32} {w : MW} (h0 : mTg w a2 = 10) (h1 : mR w a2 10 = some (gR w a2 10)) (h2 : 52 ≤ mTg w (gR w a2 10) ∧ mTg w (gR w a2 10) < 55) (h3 : x3 < 2147483648) (h4 : x3 < mLn w (gR w a2 10)) (h5 : mR w (gR w a2 10) x3 = some (gR w (gR w a2 10) x3)) (h6 : 50 ≤ mTg w (gR w (gR w a2 10) x3) ∧ mTg w (gR w (gR w a2 10) x3) < 55) : mX d 167 364 [.ref a0, .ref a1, .ref a2, .int (nI x3), .int x4, .int x5, mJ, mJ, mJ] [] w = (if (nI (mLn w (gR w (gR w a2 10) x3))) ≤ x5 then mX d 167 428 [.ref a0, .ref a1, .ref a2, .int (nI x3), mJ, mJ, mJ, mJ, mJ] [] w else mX d 167 376 [.ref a0, .ref a1, .ref a2, .int (nI x3), .int x4, .int x5, mJ, mJ, mJ] [] w) := by
  refine Eq.trans (X_st f_167_364 rfl rfl) ?_
  refine Eq.trans (X_st f_167_366 rfl rfl) ?_
  refine Eq.trans (X_getR f_167_367 h0 rfl h1) ?_
  refine Eq.trans (X_st f_167_370 rfl rfl) ?_
  refine Eq.trans (X_aald f_167_371 h2 (jnn h3) (jcl h3) h4 h5) ?_
  refine Eq.trans (X_st f_167_372 rfl (if_pos h6)) ?_
  refine Eq.trans (X_br f_167_373 rfl rfl) ?_
  exact mIte_eq (mX_maskK lm_167_428 rfl) (mX_maskK lm_167_376 rfl)
theorem b_167_376 {d : Nat} {a0 : Nat} {a1 : Nat} {a2 : Nat} {x3 : Nat} {x4 : Int32} {x5 : Int32} {w : MW} (h0 : mTg w a2 = 10) (h1 : mR w a2 10 = some (gR w a2 10)) (h2 : 52 ≤ mTg w (gR w a2 10) ∧ mTg w (gR w a2 10) < 55) (h3 : x3 < 2147483648) (h4 : x3 < mLn w (gR w a2 10)) (h5 : mR w (gR w a2 10) x3 = some (gR w (gR w a2 10) x3)) (h6 : mR w a2 9 = some (gR w a2 9)) (h7 : 50 ≤ mTg w (gR w a2 9) ∧ mTg w (gR w a2 9) < 55) : mX (d + 1) 167 376 [.ref a0, .ref a1, .ref a2, .int (nI x3), .int x4, .int x5, mJ, mJ, mJ] [] w = mThen (mK d 163 [.int ((x4 >>> (x5 &&& 31)) + ((nI 2) * x5)), .int (nI (mLn w (gR w a2 9)))] w) (fun v w9 => mX (d + 1) 167 402 [.ref a0, .ref a1, .ref a2, .int (nI x3), .int x4, .int x5, mJ, mJ, mJ] (v.toList ++ [.int x5, .ref (gR w (gR w a2 10) x3)]) w9) := by
  refine Eq.trans (X_st f_167_376 rfl rfl) ?_
  refine Eq.trans (X_getR f_167_377 h0 rfl h1) ?_
  refine Eq.trans (X_st f_167_380 rfl rfl) ?_
  refine Eq.trans (X_aald f_167_381 h2 (jnn h3) (jcl h3) h4 h5) ?_
  refine Eq.trans (X_st f_167_382 rfl rfl) ?_
  refine Eq.trans (X_st f_167_384 rfl rfl) ?_
  refine Eq.trans (X_st f_167_386 rfl rfl) ?_
  refine Eq.trans (X_st f_167_388 rfl rfl) ?_
  refine Eq.trans (X_iconst f_167_389 kc_i_2) ?_
  refine Eq.trans (X_st f_167_390 rfl rfl) ?_
  refine Eq.trans (X_st f_167_392 rfl rfl) ?_
  refine Eq.trans (X_st f_167_393 rfl rfl) ?_
  refine Eq.trans (X_st f_167_394 rfl rfl) ?_
  refine Eq.trans (X_getR f_167_395 h0 rfl h6) ?_
  refine Eq.trans (X_st f_167_398 rfl (if_pos h7)) ?_
  refine Eq.trans (X_call f_167_399 (by decide) rfl rfl rfl rfl rfl rfl (Nat.le_of_ble_eq_true rfl) (Nat.le_of_ble_eq_true rfl) rfl (Nat.le_of_ble_eq_true rfl)) ?_
  exact mThen_eq fun v w9 => mX_maskK lm_167_402 rfl
theorem b_167_402 {d : Nat} {a0 : Nat} {a1 : Nat} {a2 : Nat} {x3 : Int32} {x4 : Int32} {x5 : Int32} {y0 : Int32} {y1 : Nat} {b2 : Nat} {w : MW} (h0 : mTg w b2 = 50) (h1 : mE ≤ b2) (h2 : y1 < 2147483648) (h3 : y1 < mLn w b2) : mX d 167 402 [.ref a0, .ref a1, .ref a2, .int x3, .int x4, .int x5, mJ, mJ, mJ] [.int y0, .int (nI y1), .ref b2] w = mX d 167 403 [.ref a0, .ref a1, .ref a2, .int x3, .int x4, .int x5, mJ, mJ, mJ] [] (wI w b2 y1 y0) := by
  refine Eq.trans (X_iast f_167_402 h0 h1 (jnn h2) (jcl h2) h3) ?_
  exact mX_maskK lm_167_403 rfl
theorem b_167_403 {d : Nat} {a0 : Nat} {a1 : Nat} {a2 : Nat} {x3 : Int32} {x4 : Int32} {x5 : Int32} {w : MW} (h0 : mTg w a1 = 12) : mX (d + 1) 167 403 [.ref a0, .ref a1, .ref a2, .int x3, .int x4, .int x5, mJ, mJ, mJ] [] w = mThen (mK d 159 [.ref a1, .ref 134] w) (fun v w9 => mX (d + 1) 167 409 [.ref a0, .ref a1, .ref a2, .int x3, .int x4, .int x5, mJ, mJ, mJ] (v.toList ++ []) w9) := by
  refine Eq.trans (X_st f_167_403 rfl rfl) ?_
  refine Eq.trans (X_st f_167_404 rfl rfl) ?_
  refine Eq.trans (X_call f_167_406 (by decide) rfl rfl rfl rfl rfl rfl (Nat.le_of_ble_eq_true rfl) (Nat.le_of_ble_eq_true rfl) (decide_eq_true h0) (Nat.le_of_ble_eq_true rfl)) ?_
  exact mThen_eq fun v w9 => mX_maskK lm_167_409 rfl
theorem b_167_409 {d : Nat} {a0 : Nat} {a1 : Nat} {a2 : Nat} {x3 : Nat} {x4 : Int32} {x5 : Nat} {b0 : Nat} {w : MW} (h0 : mTg w a2 = 10) (h1 : mR w a2 10 = some (gR w a2 10)) (h2 : 52 ≤ mTg w (gR w a2 10) ∧ mTg w (gR w a2 10) < 55) (h3 : x3 < 2147483648) (h4 : x3 < mLn w (gR w a2 10)) (h5 : mR w (gR w a2 10) x3 = some (gR w (gR w a2 10) x3)) (h6 : mTg w (gR w (gR w a2 10) x3) = 50) (h7 : x5 < 2147483648) (h8 : x5 < mLn w (gR w (gR w a2 10) x3)) (h9 : mTg w b0 = 12) : mX (d + 1) 167 409 [.ref a0, .ref a1, .ref a2, .int (nI x3), .int x4, .int (nI x5), mJ, mJ, mJ] [.ref b0] w = mThen (mK d 160 [.ref b0, .int (mI w (gR w (gR w a2 10) x3) x5)] w) (fun v w9 => mX (d + 1) 167 421 [.ref a0, .ref a1, .ref a2, .int (nI x3), .int x4, .int (nI x5), mJ, mJ, mJ] (v.toList ++ []) w9) := by
  refine Eq.trans (X_st f_167_409 rfl rfl) ?_
  refine Eq.trans (X_getR f_167_410 h0 rfl h1) ?_
  refine Eq.trans (X_st f_167_413 rfl rfl) ?_
  refine Eq.trans (X_aald f_167_414 h2 (jnn h3) (jcl h3) h4 h5) ?_
  refine Eq.trans (X_st f_167_415 rfl rfl) ?_
  refine Eq.trans (X_iald f_167_417 h6 (jnn h7) (jcl h7) h8) ?_
  refine Eq.trans (X_call f_167_418 (by decide) rfl rfl rfl rfl rfl rfl (Nat.le_of_ble_eq_true rfl) (Nat.le_of_ble_eq_true rfl) (decide_eq_true h9) (Nat.le_of_ble_eq_true rfl)) ?_
  exact mThen_eq fun v w9 => mX_maskK lm_167_421 rfl
theorem b_167_421 {d : Nat} {a0 : Nat} {a1 : Nat} {a2 : Nat} {x3 : Int32} {x4 : Int32} {x5 : Int32} {b0 : Nat} {w : MW} : mX d 167 421 [.ref a0, .ref a1, .ref a2, .int x3, .int x4, .int x5, mJ, mJ, mJ] [.ref b0] w = mX d 167 364 [.ref a0, .ref a1, .ref a2, .int x3, .int x4, .int (x5 + (nI 1)), mJ, mJ, mJ] [] w := by
  refine Eq.trans (X_pop f_167_421 rfl) ?_
  refine Eq.trans (X_iinc f_167_422 kc_i_1 rfl rfl) ?_
  refine Eq.trans (X_st f_167_425 rfl rfl) ?_
  exact mX_maskK lm_167_364 rfl
theorem b_167_428 {d : Nat} {a0 : Nat} {a1 : Nat} {a2 : Nat} {x3 : Int32} {w : MW} (h0 : mTg w a1 = 12) : mX (d + 1) 167 428 [.ref a0, .ref a1, .ref a2, .int x3, mJ, mJ, mJ, mJ, mJ] [] w = mThen (mK d 159 [.ref a1, .ref 118] w) (fun v w9 => mX (d + 1) 167 434 [.ref a0, .ref a1, .ref a2, .int x3, mJ, mJ, mJ, mJ, mJ] (v.toList ++ []) w9) := by
  refine Eq.trans (X_st f_167_428 rfl rfl) ?_
  refine Eq.trans (X_st f_167_429 rfl rfl) ?_
  refine Eq.trans (X_call f_167_431 (by decide) rfl rfl rfl rfl rfl rfl (Nat.le_of_ble_eq_true rfl) (Nat.le_of_ble_eq_true rfl) (decide_eq_true h0) (Nat.le_of_ble_eq_true rfl)) ?_
  exact mThen_eq fun v w9 => mX_maskK lm_167_434 rfl
theorem b_167_434 {d : Nat} {a0 : Nat} {a1 : Nat} {a2 : Nat} {x3 : Int32} {b0 : Nat} {w : MW} : mX d 167 434 [.ref a0, .ref a1, .ref a2, .int x3, mJ, mJ, mJ, mJ, mJ] [.ref b0] w = mX d 167 298 [.ref a0, .ref a1, .ref a2, .int (x3 + (nI 1)), mJ, mJ, mJ, mJ, mJ] [] w := by
  refine Eq.trans (X_pop f_167_434 rfl) ?_
  refine Eq.trans (X_iinc f_167_435 kc_i_1 rfl rfl) ?_
  refine Eq.trans (X_st f_167_438 rfl rfl) ?_
  exact mX_maskK lm_167_298 rfl
theorem b_167_441 {d : Nat} {a0 : Nat} {a1 : Nat} {a2 : Nat} {w : MW} : mX (d + 1) 167 441 [.ref a0, .ref a1, .ref a2, mJ, mJ, mJ, mJ, mJ, mJ] [] w = mThen (mK d 164 [.ref a0, .int (nI 3)] w) (fun v w9 => mX (d + 1) 167 447 [.ref a0, .ref a1, .ref a2, mJ, mJ, mJ, mJ, mJ, mJ] (v.toList ++ [.int (nI 2)]) w9) := by
  refine Eq.trans (X_iconst f_167_441 kc_i_2) ?_
  refine Eq.trans (X_st f_167_442 rfl rfl) ?_
  refine Eq.trans (X_iconst f_167_443 kc_i_3) ?_
  refine Eq.trans (X_call f_167_444 (by decide) rfl rfl rfl rfl rfl rfl (Nat.le_of_ble_eq_true rfl) (Nat.le_of_ble_eq_true rfl) rfl (Nat.le_of_ble_eq_true rfl)) ?_
  exact mThen_eq fun v w9 => mX_maskK lm_167_447 rfl
theorem b_167_447 {d : Nat} {a0 : Nat} {a1 : Nat} {a2 : Nat} {y0 : Int32} {y1 : Int32} {w : MW} : mX (d + 1) 167 447 [.ref a0, .ref a1, .ref a2, mJ, mJ, mJ, mJ, mJ, mJ] [.int y0, .int y1] w = mThen (mK d 163 [.int y0, .int (nI 3)] w) (fun v w9 => mX (d + 1) 167 451 [.ref a0, .ref a1, .ref a2, mJ, mJ, mJ, mJ, mJ, mJ] (v.toList ++ [.int y1]) w9) := by
  refine Eq.trans (X_iconst f_167_447 kc_i_3) ?_
  refine Eq.trans (X_call f_167_448 (by decide) rfl rfl rfl rfl rfl rfl (Nat.le_of_ble_eq_true rfl) (Nat.le_of_ble_eq_true rfl) rfl (Nat.le_of_ble_eq_true rfl)) ?_
  exact mThen_eq fun v w9 => mX_maskK lm_167_451 rfl
theorem b_167_451 {d : Nat} {a0 : Nat} {a1 : Nat} {a2 : Nat} {y0 : Int32} {y1 : Int32} {z0 : Nat} {w : MW} (h0 : (y1 + y0) = nI z0) (h1 : z0 < 2147483648) (h2 : z0 ≤ 134217728) : mX d 167 451 [.ref a0, .ref a1, .ref a2, mJ, mJ, mJ, mJ, mJ, mJ] [.int y0, .int y1] w = mX d 167 458 [.ref a0, .ref a1, .ref a2, .int (y1 + y0), mJ, mJ, mJ, mJ, mJ] [.ref (mSz w), .ref a2] (wN w 52 z0 z0) := by
  refine Eq.trans (X_st f_167_451 rfl rfl) ?_
  refine Eq.trans (X_istore_n (L' := [.ref a0, .ref a1, .ref a2, .int (y1 + y0), mJ, mJ, mJ, mJ, mJ]) f_167_452 (Nat.le_of_ble_eq_true rfl) rfl) ?_
  refine Eq.trans (X_st f_167_453 rfl rfl) ?_
  refine Eq.trans (X_st f_167_454 rfl rfl) ?_
  refine Eq.trans (X_newq f_167_455 (jnnE h0 h1) (jclE h0 h1) h2) ?_
  exact mX_maskK lm_167_458 rfl
theorem b_167_458 {d : Nat} {a0 : Nat} {a1 : Nat} {a2 : Nat} {x3 : Int32} {b0 : Nat} {b1 : Nat} {w : MW} (h0 : mTg w b1 = 10) (h1 : mE ≤ b1) : mX d 167 458 [.ref a0, .ref a1, .ref a2, .int x3, mJ, mJ, mJ, mJ, mJ] [.ref b0, .ref b1] w = mX d 167 461 [.ref a0, .ref a1, .ref a2, .int x3, mJ, mJ, mJ, mJ, mJ] [] (wR w b1 12 (some b0)) := by
  refine Eq.trans (X_putR f_167_458 h0 h1 rfl) ?_
  exact mX_maskK lm_167_461 rfl
theorem b_167_461 {d : Nat} {a0 : Nat} {a1 : Nat} {a2 : Nat} {x3 : Nat} {z0 : Nat} {w : MW} (h0 : mTg w a2 = 10) (h1 : mR w a2 8 = some (gR w a2 8)) (h2 : 50 ≤ mTg w (gR w a2 8) ∧ mTg w (gR w a2 8) < 55) (h3 : (nI (mLn w (gR w a2 8))) = nI z0) (h4 : z0 < 2147483648) (h5 : x3 < 2147483648) (h6 : z0 ≤ 134217728) (h7 : x3 ≤ 134217728) : mX d 167 461 [.ref a0, .ref a1, .ref a2, .int (nI x3), mJ, mJ, mJ, mJ, mJ] [] w = mX d 167 472 [.ref a0, .ref a1, .ref a2, .int (nI x3), mJ, mJ, mJ, mJ, mJ] [.ref (mSz w), .ref a2] (wM w x3 z0) := by
  refine Eq.trans (X_st f_167_461 rfl rfl) ?_
  refine Eq.trans (X_st f_167_462 rfl rfl) ?_
  refine Eq.trans (X_st f_167_463 rfl rfl) ?_
  refine Eq.trans (X_getR f_167_464 h0 rfl h1) ?_
  refine Eq.trans (X_st f_167_467 rfl (if_pos h2)) ?_
  refine Eq.trans (X_newm f_167_468 (jnn h5) (jcl h5) h7 (jnnE h3 h4) (jclE h3 h4) h6) ?_
  exact mX_maskK lm_167_472 rfl
theorem b_167_472 {d : Nat} {a0 : Nat} {a1 : Nat} {a2 : Nat} {x3 : Int32} {b0 : Nat} {b1 : Nat} {w : MW} (h0 : mTg w b1 = 10) (h1 : mE ≤ b1) : mX d 167 472 [.ref a0, .ref a1, .ref a2, .int x3, mJ, mJ, mJ, mJ, mJ] [.ref b0, .ref b1] w = mX d 167 475 [.ref a0, .ref a1, .ref a2, .int x3, mJ, mJ, mJ, mJ, mJ] [] (wR w b1 13 (some b0)) := by
  refine Eq.trans (X_putR f_167_472 h0 h1 rfl) ?_
  exact mX_maskK lm_167_475 rfl
theorem b_167_475 {d : Nat} {a0 : Nat} {a1 : Nat} {a2 : Nat} {x3 : Nat} {z0 : Nat} {w : MW} (h0 : mTg w a2 = 10) (h1 : mR w a2 9 = some (gR w a2 9)) (h2 : 50 ≤ mTg w (gR w a2 9) ∧ mTg w (gR w a2 9) < 55) (h3 : (nI (mLn w (gR w a2 9))) = nI z0) (h4 : z0 < 2147483648) (h5 : x3 < 2147483648) (h6 : z0 ≤ 134217728) (h7 : x3 ≤ 134217728) : mX d 167 475 [.ref a0, .ref a1, .ref a2, .int (nI x3), mJ, mJ, mJ, mJ, mJ] [] w = mX d 167 486 [.ref a0, .ref a1, .ref a2, .int (nI x3), mJ, mJ, mJ, mJ, mJ] [.ref (mSz w), .ref a2] (wM w x3 z0) := by
  refine Eq.trans (X_st f_167_475 rfl rfl) ?_
  refine Eq.trans (X_st f_167_476 rfl rfl) ?_
  refine Eq.trans (X_st f_167_477 rfl rfl) ?_
  refine Eq.trans (X_getR f_167_478 h0 rfl h1) ?_
  refine Eq.trans (X_st f_167_481 rfl (if_pos h2)) ?_
  refine Eq.trans (X_newm f_167_482 (jnn h5) (jcl h5) h7 (jnnE h3 h4) (jclE h3 h4) h6) ?_
  exact mX_maskK lm_167_486 rfl
theorem b_167_486 {d : Nat} {a0 : Nat} {a1 : Nat} {a2 : Nat} {x3 : Int32} {b0 : Nat} {b1 : Nat} {w : MW} (h0 : mTg w b1 = 10) (h1 : mE ≤ b1) : mX d 167 486 [.ref a0, .ref a1, .ref a2, .int x3, mJ, mJ, mJ, mJ, mJ] [.ref b0, .ref b1] w = mX d 167 489 [.ref a0, .ref a1, .ref a2, .int x3, mJ, mJ, mJ, mJ, mJ] [] (wR w b1 14 (some b0)) := by
  refine Eq.trans (X_putR f_167_486 h0 h1 rfl) ?_
  exact mX_maskK lm_167_489 rfl
theorem b_167_489 {d : Nat} {a0 : Nat} {a1 : Nat} {a2 : Nat} {x3 : Int32} {w : MW} : mX d 167 489 [.ref a0, .ref a1, .ref a2, .int x3, mJ, mJ, mJ, mJ, mJ] [] w = mX d 167 492 [.ref a0, .ref a1, .ref a2, .int x3, .int (nI 0), mJ, mJ, mJ, mJ] [] w := by
  refine Eq.trans (X_iconst f_167_489 kc_i_0) ?_
  refine Eq.trans (X_istore (L' := [.ref a0, .ref a1, .ref a2, .int x3, .int (nI 0), mJ, mJ, mJ, mJ]) f_167_490 (Nat.le_of_ble_eq_true rfl) rfl) ?_
  exact mX_maskK lm_167_492 rfl
theorem b_167_492 {d : Nat} {a0 : Nat} {a1 : Nat} {a2 : Nat} {x3 : Int32} {x4 : Int32} {w : MW} : mX d 167 492 [.ref a0, .ref a1, .ref a2, .int x3, .int x4, mJ, mJ, mJ, mJ] [] w = (if x3 ≤ x4 then mX d 167 701 [.ref a0, .ref a1, .ref a2, .int x3, mJ, mJ, mJ, mJ, mJ] [] w else mX d 167 498 [.ref a0, .ref a1, .ref a2, .int x3, .int x4, mJ, mJ, mJ, mJ] [] w) := by
  refine Eq.trans (X_st f_167_492 rfl rfl) ?_
  refine Eq.trans (X_st f_167_494 rfl rfl) ?_
  refine Eq.trans (X_br f_167_495 rfl rfl) ?_
  exact mIte_eq (mX_maskK lm_167_701 rfl) (mX_maskK lm_167_498 rfl)
theorem b_167_498 {d : Nat} {a0 : Nat} {a1 : Nat} {a2 : Nat} {x3 : Int32} {x4 : Int32} {w : MW} : mX (d + 1) 167 498 [.ref a0, .ref a1, .ref a2, .int x3, .int x4, mJ, mJ, mJ, mJ] [] w = mThen (mK d 164 [.ref a0, .int (nI 3)] w) (fun v w9 => mX (d + 1) 167 503 [.ref a0, .ref a1, .ref a2, .int x3, .int x4, mJ, mJ, mJ, mJ] (v.toList ++ []) w9) := by
  refine Eq.trans (X_st f_167_498 rfl rfl) ?_
  refine Eq.trans (X_iconst f_167_499 kc_i_3) ?_
  refine Eq.trans (X_call f_167_500 (by decide) rfl rfl rfl rfl rfl rfl (Nat.le_of_ble_eq_true rfl) (Nat.le_of_ble_eq_true rfl) rfl (Nat.le_of_ble_eq_true rfl)) ?_
  exact mThen_eq fun v w9 => mX_maskK lm_167_503 rfl
theorem b_167_503 {d : Nat} {a0 : Nat} {a1 : Nat} {a2 : Nat} {x3 : Int32} {x4 : Int32} {y0 : Int32} {w : MW} : mX (d + 1) 167 503 [.ref a0, .ref a1, .ref a2, .int x3, .int x4, mJ, mJ, mJ, mJ] [.int y0] w = mThen (mK d 163 [.int (y0 >>> (((nI 2) + ((nI 4) * x4)) &&& 31)), .int (nI 4)] w) (fun v w9 => mX (d + 1) 167 518 [.ref a0, .ref a1, .ref a2, .int x3, .int x4, .int (y0 >>> (((nI 2) + ((nI 4) * x4)) &&& 31)), mJ, mJ, mJ] (v.toList ++ []) w9) := by
  refine Eq.trans (X_iconst f_167_503 kc_i_2) ?_
  refine Eq.trans (X_iconst f_167_504 kc_i_4) ?_
  refine Eq.trans (X_st f_167_505 rfl rfl) ?_
  refine Eq.trans (X_st f_167_507 rfl rfl) ?_
  refine Eq.trans (X_st f_167_508 rfl rfl) ?_
  refine Eq.trans (X_st f_167_509 rfl rfl) ?_
  refine Eq.trans (X_istore (L' := [.ref a0, .ref a1, .ref a2, .int x3, .int x4, .int (y0 >>> (((nI 2) + ((nI 4) * x4)) &&& 31)), mJ, mJ, mJ]) f_167_510 (Nat.le_of_ble_eq_true rfl) rfl) ?_
  refine Eq.trans (X_st f_167_512 rfl rfl) ?_
  refine Eq.trans (X_iconst f_167_514 kc_i_4) ?_
  refine Eq.trans (X_call f_167_515 (by decide) rfl rfl rfl rfl rfl rfl (Nat.le_of_ble_eq_true rfl) (Nat.le_of_ble_eq_true rfl) rfl (Nat.le_of_ble_eq_true rfl)) ?_
  exact mThen_eq fun v w9 => mX_maskK lm_167_518 rfl
theorem b_167_518 {d : Nat} {a0 : Nat} {a1 : Nat} {a2 : Nat} {x3 : Int32} {x4 : Int32} {x5 : Int32} {y0 : Int32} {w : MW} (h0 : mTg w a2 = 10) (h1 : mR w a2 12 = some (gR w a2 12)) : mX d 167 518 [.ref a0, .ref a1, .ref a2, .int x3, .int x4, .int x5, mJ, mJ, mJ] [.int y0] w = mX d 167 530 [.ref a0, .ref a1, .ref a2, .int x3, .int x4, .int x5, .int y0, mJ, mJ] [.ref (mSz w), .int x4, .ref (gR w a2 12)] (wN w 50 9 9) := by
  refine Eq.trans (X_istore (L' := [.ref a0, .ref a1, .ref a2, .int x3, .int x4, .int x5, .int y0, mJ, mJ]) f_167_518 (Nat.le_of_ble_eq_true rfl) rfl) ?_
  refine Eq.trans (X_st f_167_520 rfl rfl) ?_
  refine Eq.trans (X_getR f_167_521 h0 rfl h1) ?_
  refine Eq.trans (X_st f_167_524 rfl rfl) ?_
  refine Eq.trans (X_bipush f_167_526 kc_b_9) ?_
  refine Eq.trans (X_newa f_167_528 kn_9 kl_9 (Nat.le_of_ble_eq_true rfl)) ?_
  exact mX_maskK lm_167_530 rfl
theorem b_167_530 {d : Nat} {a0 : Nat} {a1 : Nat} {a2 : Nat} {x3 : Int32} {x4 : Int32} {x5 : Int32} {x6 : Int32} {b0 : Nat} {y1 : Int32} {b2 : Nat} {w : MW} (h0 : mTg w b0 = 50) (h1 : mE ≤ b0) (h2 : 0 < mLn w b0) : mX d 167 530 [.ref a0, .ref a1, .ref a2, .int x3, .int x4, .int x5, .int x6, mJ, mJ] [.ref b0, .int y1, .ref b2] w = mX d 167 534 [.ref a0, .ref a1, .ref a2, .int x3, .int x4, .int x5, .int x6, mJ, mJ] [.ref b0, .int y1, .ref b2] (wI w b0 0 (nI 1)) := by
  refine Eq.trans (X_dup f_167_530 rfl) ?_
  refine Eq.trans (X_iconst f_167_531 kc_i_0) ?_
  refine Eq.trans (X_iconst f_167_532 kc_i_1) ?_
  refine Eq.trans (X_iast f_167_533 h0 h1 kn_0 kl_0 h2) ?_
  exact mX_maskK lm_167_534 rfl
theorem b_167_534 {d : Nat} {a0 : Nat} {a1 : Nat} {a2 : Nat} {x3 : Int32} {x4 : Int32} {x5 : Int32} {x6 : Int32} {b0 : Nat} {y1 : Int32} {b2 : Nat} {w : MW} (h0 : mTg w b0 = 50) (h1 : mE ≤ b0) (h2 : 1 < mLn w b0) : mX d 167 534 [.ref a0, .ref a1, .ref a2, .int x3, .int x4, .int x5, .int x6, mJ, mJ] [.ref b0, .int y1, .ref b2] w = mX d 167 538 [.ref a0, .ref a1, .ref a2, .int x3, .int x4, .int x5, .int x6, mJ, mJ] [.ref b0, .int y1, .ref b2] (wI w b0 1 (nI 0)) := by
  refine Eq.trans (X_dup f_167_534 rfl) ?_
  refine Eq.trans (X_iconst f_167_535 kc_i_1) ?_
  refine Eq.trans (X_iconst f_167_536 kc_i_0) ?_
  refine Eq.trans (X_iast f_167_537 h0 h1 kn_1 kl_1 h2) ?_
  exact mX_maskK lm_167_538 rfl
theorem b_167_538 {d : Nat} {a0 : Nat} {a1 : Nat} {a2 : Nat} {x3 : Int32} {x4 : Int32} {x5 : Int32} {x6 : Int32} {b0 : Nat} {y1 : Int32} {b2 : Nat} {w : MW} (h0 : mTg w b0 = 50) (h1 : mE ≤ b0) (h2 : 2 < mLn w b0) : mX d 167 538 [.ref a0, .ref a1, .ref a2, .int x3, .int x4, .int x5, .int x6, mJ, mJ] [.ref b0, .int y1, .ref b2] w = mX d 167 542 [.ref a0, .ref a1, .ref a2, .int x3, .int x4, .int x5, .int x6, mJ, mJ] [.ref b0, .int y1, .ref b2] (wI w b0 2 (nI 0)) := by
  refine Eq.trans (X_dup f_167_538 rfl) ?_
  refine Eq.trans (X_iconst f_167_539 kc_i_2) ?_
  refine Eq.trans (X_iconst f_167_540 kc_i_0) ?_
  refine Eq.trans (X_iast f_167_541 h0 h1 kn_2 kl_2 h2) ?_
  exact mX_maskK lm_167_542 rfl
theorem b_167_542 {d : Nat} {a0 : Nat} {a1 : Nat} {a2 : Nat} {x3 : Int32} {x4 : Int32} {x5 : Int32} {x6 : Int32} {b0 : Nat} {y1 : Int32} {b2 : Nat} {w : MW} (h0 : mTg w b0 = 50) (h1 : mE ≤ b0) (h2 : 3 < mLn w b0) : mX d 167 542 [.ref a0, .ref a1, .ref a2, .int x3, .int x4, .int x5, .int x6, mJ, mJ] [.ref b0, .int y1, .ref b2] w = mX d 167 547 [.ref a0, .ref a1, .ref a2, .int x3, .int x4, .int x5, .int x6, mJ, mJ] [.ref b0, .int y1, .ref b2] (wI w b0 3 x6) := by
  refine Eq.trans (X_dup f_167_542 rfl) ?_
  refine Eq.trans (X_iconst f_167_543 kc_i_3) ?_
  refine Eq.trans (X_st f_167_544 rfl rfl) ?_
  refine Eq.trans (X_iast f_167_546 h0 h1 kn_3 kl_3 h2) ?_
  exact mX_maskK lm_167_547 rfl
theorem b_167_547 {d : Nat} {a0 : Nat} {a1 : Nat} {a2 : Nat} {x3 : Int32} {x4 : Int32} {x5 : Int32} {x6 : Int32} {b0 : Nat} {y1 : Int32} {b2 : Nat} {w : MW} (h0 : mTg w b0 = 50) (h1 : mE ≤ b0) (h2 : 4 < mLn w b0) : mX d 167 547 [.ref a0, .ref a1, .ref a2, .int x3, .int x4, .int x5, .int x6, mJ, mJ] [.ref b0, .int y1, .ref b2] w = mX d 167 551 [.ref a0, .ref a1, .ref a2, .int x3, .int x4, .int x5, .int x6, mJ, mJ] [.ref b0, .int y1, .ref b2] (wI w b0 4 (nI 1)) := by
  refine Eq.trans (X_dup f_167_547 rfl) ?_
  refine Eq.trans (X_iconst f_167_548 kc_i_4) ?_
  refine Eq.trans (X_iconst f_167_549 kc_i_1) ?_
  refine Eq.trans (X_iast f_167_550 h0 h1 kn_4 kl_4 h2) ?_
  exact mX_maskK lm_167_551 rfl
theorem b_167_551 {d : Nat} {a0 : Nat} {a1 : Nat} {a2 : Nat} {x3 : Int32} {x4 : Int32} {x5 : Int32} {x6 : Int32} {b0 : Nat} {y1 : Int32} {b2 : Nat} {w : MW} (h0 : mTg w b0 = 50) (h1 : mE ≤ b0) (h2 : 5 < mLn w b0) : mX d 167 551 [.ref a0, .ref a1, .ref a2, .int x3, .int x4, .int x5, .int x6, mJ, mJ] [.ref b0, .int y1, .ref b2] w = mX d 167 555 [.ref a0, .ref a1, .ref a2, .int x3, .int x4, .int x5, .int x6, mJ, mJ] [.ref b0, .int y1, .ref b2] (wI w b0 5 (nI 0)) := by
  refine Eq.trans (X_dup f_167_551 rfl) ?_
  refine Eq.trans (X_iconst f_167_552 kc_i_5) ?_
  refine Eq.trans (X_iconst f_167_553 kc_i_0) ?_
  refine Eq.trans (X_iast f_167_554 h0 h1 kn_5 kl_5 h2) ?_
  exact mX_maskK lm_167_555 rfl
theorem b_167_555 {d : Nat} {a0 : Nat} {a1 : Nat} {a2 : Nat} {x3 : Int32} {x4 : Int32} {x5 : Int32} {x6 : Int32} {b0 : Nat} {y1 : Int32} {b2 : Nat} {w : MW} (h0 : mTg w b0 = 50) (h1 : mE ≤ b0) (h2 : 6 < mLn w b0) : mX d 167 555 [.ref a0, .ref a1, .ref a2, .int x3, .int x4, .int x5, .int x6, mJ, mJ] [.ref b0, .int y1, .ref b2] w = mX d 167 560 [.ref a0, .ref a1, .ref a2, .int x3, .int x4, .int x5, .int x6, mJ, mJ] [.ref b0, .int y1, .ref b2] (wI w b0 6 (nI 0)) := by
  refine Eq.trans (X_dup f_167_555 rfl) ?_
  refine Eq.trans (X_bipush f_167_556 kc_b_6) ?_
  refine Eq.trans (X_iconst f_167_558 kc_i_0) ?_
  refine Eq.trans (X_iast f_167_559 h0 h1 kn_6 kl_6 h2) ?_
  exact mX_maskK lm_167_560 rfl
theorem b_167_560 {d : Nat} {a0 : Nat} {a1 : Nat} {a2 : Nat} {x3 : Int32} {x4 : Int32} {x5 : Int32} {x6 : Int32} {b0 : Nat} {y1 : Int32} {b2 : Nat} {w : MW} (h0 : mTg w b0 = 50) (h1 : mE ≤ b0) (h2 : 7 < mLn w b0) : mX d 167 560 [.ref a0, .ref a1, .ref a2, .int x3, .int x4, .int x5, .int x6, mJ, mJ] [.ref b0, .int y1, .ref b2] w = mX d 167 565 [.ref a0, .ref a1, .ref a2, .int x3, .int x4, .int x5, .int x6, mJ, mJ] [.ref b0, .int y1, .ref b2] (wI w b0 7 (nI 0)) := by
  refine Eq.trans (X_dup f_167_560 rfl) ?_
  refine Eq.trans (X_bipush f_167_561 kc_b_7) ?_
  refine Eq.trans (X_iconst f_167_563 kc_i_0) ?_
  refine Eq.trans (X_iast f_167_564 h0 h1 kn_7 kl_7 h2) ?_
  exact mX_maskK lm_167_565 rfl
theorem b_167_565 {d : Nat} {a0 : Nat} {a1 : Nat} {a2 : Nat} {x3 : Int32} {x4 : Int32} {x5 : Int32} {x6 : Int32} {b0 : Nat} {y1 : Int32} {b2 : Nat} {w : MW} (h0 : mTg w b0 = 50) (h1 : mE ≤ b0) (h2 : 8 < mLn w b0) : mX d 167 565 [.ref a0, .ref a1, .ref a2, .int x3, .int x4, .int x5, .int x6, mJ, mJ] [.ref b0, .int y1, .ref b2] w = mX d 167 570 [.ref a0, .ref a1, .ref a2, .int x3, .int x4, .int x5, .int x6, mJ, mJ] [.ref b0, .int y1, .ref b2] (wI w b0 8 (nI 0)) := by
  refine Eq.trans (X_dup f_167_565 rfl) ?_
  refine Eq.trans (X_bipush f_167_566 kc_b_8) ?_
  refine Eq.trans (X_iconst f_167_568 kc_i_0) ?_
  refine Eq.trans (X_iast f_167_569 h0 h1 kn_8 kl_8 h2) ?_
  exact mX_maskK lm_167_570 rfl
theorem b_167_570 {d : Nat} {a0 : Nat} {a1 : Nat} {a2 : Nat} {x3 : Int32} {x4 : Int32} {x5 : Int32} {x6 : Int32} {b0 : Nat} {y1 : Nat} {b2 : Nat} {w : MW} (h0 : mTg w b2 = 52 ∧ mTg w b0 = 50 ∧ mE ≤ b0 ∨ mTg w b2 = 53 ∧ mTg w b0 = 4 ∨ mTg w b2 = 54 ∧ mTg w b0 = 11) (h1 : y1 < 2147483648) (h2 : y1 < mLn w b2) : mX d 167 570 [.ref a0, .ref a1, .ref a2, .int x3, .int x4, .int x5, .int x6, mJ, mJ] [.ref b0, .int (nI y1), .ref b2] w = mX d 167 571 [.ref a0, .ref a1, .ref a2, .int x3, .int x4, .int x5, .int x6, mJ, mJ] [] (wR w b2 y1 (some b0)) := by
  refine Eq.trans (X_aast f_167_570 h0 (jnn h1) (jcl h1) h2) ?_
  exact mX_maskK lm_167_571 rfl
theorem b_167_571 {d : Nat} {a0 : Nat} {a1 : Nat} {a2 : Nat} {x3 : Int32} {x4 : Int32} {x5 : Int32} {x6 : Int32} {w : MW} (h0 : mTg w a1 = 12) : mX (d + 1) 167 571 [.ref a0, .ref a1, .ref a2, .int x3, .int x4, .int x5, .int x6, mJ, mJ] [] w = mThen (mK d 159 [.ref a1, .ref 136] w) (fun v w9 => mX (d + 1) 167 577 [.ref a0, .ref a1, .ref a2, .int x3, .int x4, .int x5, .int x6, mJ, mJ] (v.toList ++ []) w9) := by
  refine Eq.trans (X_st f_167_571 rfl rfl) ?_
  refine Eq.trans (X_st f_167_572 rfl rfl) ?_
  refine Eq.trans (X_call f_167_574 (by decide) rfl rfl rfl rfl rfl rfl (Nat.le_of_ble_eq_true rfl) (Nat.le_of_ble_eq_true rfl) (decide_eq_true h0) (Nat.le_of_ble_eq_true rfl)) ?_
  exact mThen_eq fun v w9 => mX_maskK lm_167_577 rfl
theorem b_167_577 {d : Nat} {a0 : Nat} {a1 : Nat} {a2 : Nat} {x3 : Int32} {x4 : Int32} {x5 : Int32} {x6 : Int32} {b0 : Nat} {w : MW} (h0 : mTg w b0 = 12) : mX (d + 1) 167 577 [.ref a0, .ref a1, .ref a2, .int x3, .int x4, .int x5, .int x6, mJ, mJ] [.ref b0] w = mThen (mK d 160 [.ref b0, .int x4] w) (fun v w9 => mX (d + 1) 167 582 [.ref a0, .ref a1, .ref a2, .int x3, .int x4, .int x5, .int x6, mJ, mJ] (v.toList ++ []) w9) := by
  refine Eq.trans (X_st f_167_577 rfl rfl) ?_
  refine Eq.trans (X_call f_167_579 (by decide) rfl rfl rfl rfl rfl rfl (Nat.le_of_ble_eq_true rfl) (Nat.le_of_ble_eq_true rfl) (decide_eq_true h0) (Nat.le_of_ble_eq_true rfl)) ?_
  exact mThen_eq fun v w9 => mX_maskK lm_167_582 rfl
theorem b_167_582 {d : Nat} {a0 : Nat} {a1 : Nat} {a2 : Nat} {x3 : Int32} {x4 : Int32} {x5 : Int32} {x6 : Int32} {b0 : Nat} {w : MW} (h0 : mTg w b0 = 12) : mX (d + 1) 167 582 [.ref a0, .ref a1, .ref a2, .int x3, .int x4, .int x5, .int x6, mJ, mJ] [.ref b0] w = mThen (mK d 159 [.ref b0, .ref 138] w) (fun v w9 => mX (d + 1) 167 587 [.ref a0, .ref a1, .ref a2, .int x3, .int x4, .int x5, .int x6, mJ, mJ] (v.toList ++ []) w9) := by
  refine Eq.trans (X_st f_167_582 rfl rfl) ?_
  refine Eq.trans (X_call f_167_584 (by decide) rfl rfl rfl rfl rfl rfl (Nat.le_of_ble_eq_true rfl) (Nat.le_of_ble_eq_true rfl) (decide_eq_true h0) (Nat.le_of_ble_eq_true rfl)) ?_
  exact mThen_eq fun v w9 => mX_maskK lm_167_587 rfl
theorem b_167_587 {d : Nat} {a0 : Nat} {a1 : Nat} {a2 : Nat} {x3 : Int32} {x4 : Int32} {x5 : Int32} {x6 : Int32} {b0 : Nat} {w : MW} (h0 : mTg w b0 = 12) : mX (d + 1) 167 587 [.ref a0, .ref a1, .ref a2, .int x3, .int x4, .int x5, .int x6, mJ, mJ] [.ref b0] w = mThen (mK d 160 [.ref b0, .int x6] w) (fun v w9 => mX (d + 1) 167 592 [.ref a0, .ref a1, .ref a2, .int x3, .int x4, .int x5, mJ, mJ, mJ] (v.toList ++ []) w9) := by
  refine Eq.trans (X_st f_167_587 rfl rfl) ?_
  refine Eq.trans (X_call f_167_589 (by decide) rfl rfl rfl rfl rfl rfl (Nat.le_of_ble_eq_true rfl) (Nat.le_of_ble_eq_true rfl) (decide_eq_true h0) (Nat.le_of_ble_eq_true rfl)) ?_
  exact mThen_eq fun v w9 => mX_maskK lm_167_592 rfl
theorem b_167_592 {d : Nat} {a0 : Nat} {a1 : Nat} {a2 : Nat} {x3 : Int32} {x4 : Int32} {x5 : Int32} {b0 : Nat} {w : MW} : mX d 167 592 [.ref a0, .ref a1, .ref a2, .int x3, .int x4, .int x5, mJ, mJ, mJ] [.ref b0] w = mX d 167 596 [.ref a0, .ref a1, .ref a2, .int x3, .int x4, .int x5, mJ, .int (nI 0), mJ] [] w := by
  refine Eq.trans (X_pop f_167_592 rfl) ?_
  refine Eq.trans (X_iconst f_167_593 kc_i_0) ?_
  refine Eq.trans (X_istore (L' := [.ref a0, .ref a1, .ref a2, .int x3, .int x4, .int x5, mJ, .int (nI 0), mJ]) f_167_594 (Nat.le_of_ble_eq_true rfl) rfl) ?_
  exact mX_maskK lm_167_596 rfl
theorem b_167_596 {d : Nat} {a0 : Nat} {a1 : Nat} {a2 : Nat} {x3 : Int32} {x4 : Int32} {x5 : Int32} {x7 : Int32} {w : MW} : mX (d + 1) 167 596 [.ref a0, .ref a1, .ref a2, .int x3, .int x4, .int x5, mJ, .int x7, mJ] [] w = mThen (mK d 163 [.int (x5 >>> ((nI 3) &&& 31)), .int (nI 4)] w) (fun v w9 => mX (d + 1) 167 607 [.ref a0, .ref a1, .ref a2, .int x3, .int x4, .int x5, mJ, .int x7, mJ] (v.toList ++ [.int (nI 1), .int x7]) w9) := by
  refine Eq.trans (X_st f_167_596 rfl rfl) ?_
  refine Eq.trans (X_iconst f_167_598 kc_i_1) ?_
  refine Eq.trans (X_st f_167_599 rfl rfl) ?_
  refine Eq.trans (X_iconst f_167_601 kc_i_3) ?_
  refine Eq.trans (X_st f_167_602 rfl rfl) ?_
  refine Eq.trans (X_iconst f_167_603 kc_i_4) ?_
  refine Eq.trans (X_call f_167_604 (by decide) rfl rfl rfl rfl rfl rfl (Nat.le_of_ble_eq_true rfl) (Nat.le_of_ble_eq_true rfl) rfl (Nat.le_of_ble_eq_true rfl)) ?_
  exact mThen_eq fun v w9 => mX_maskK lm_167_607 rfl
theorem b_167_607 {d : Nat} {a0 : Nat} {a1 : Nat} {a2 : Nat} {x3 : Int32} {x4 : Int32} {x5 : Int32} {x7 : Int32} {y0 : Int32} {y1 : Int32} {y2 : Int32} {w : MW} : mX d 167 607 [.ref a0, .ref a1, .ref a2, .int x3, .int x4, .int x5, mJ, .int x7, mJ] [.int y0, .int y1, .int y2] w = (if (y1 + y0) ≤ y2 then mX d 167 688 [.ref a0, .ref a1, .ref a2, .int x3, .int x4, mJ, mJ, mJ, mJ] [] w else mX d 167 611 [.ref a0, .ref a1, .ref a2, .int x3, .int x4, .int x5, mJ, .int x7, mJ] [] w) := by
  refine Eq.trans (X_st f_167_607 rfl rfl) ?_
  refine Eq.trans (X_br f_167_608 rfl rfl) ?_
  exact mIte_eq (mX_maskK lm_167_688 rfl) (mX_maskK lm_167_611 rfl)
theorem b_167_611 {d : Nat} {a0 : Nat} {a1 : Nat} {a2 : Nat} {x3 : Int32} {x4 : Int32} {x5 : Int32} {x7 : Int32} {w : MW} (h0 : mTg w a2 = 10) (h1 : mR w a2 8 = some (gR w a2 8)) (h2 : 50 ≤ mTg w (gR w a2 8) ∧ mTg w (gR w a2 8) < 55) : mX (d + 1) 167 611 [.ref a0, .ref a1, .ref a2, .int x3, .int x4, .int x5, mJ, .int x7, mJ] [] w = mThen (mK d 163 [.int ((x5 >>> ((nI 2) &&& 31)) + x7), .int (nI (mLn w (gR w a2 8)))] w) (fun v w9 => mX (d + 1) 167 626 [.ref a0, .ref a1, .ref a2, .int x3, .int x4, .int x5, mJ, .int x7, mJ] (v.toList ++ []) w9) := by
  refine Eq.trans (X_st f_167_611 rfl rfl) ?_
  refine Eq.trans (X_iconst f_167_613 kc_i_2) ?_
  refine Eq.trans (X_st f_167_614 rfl rfl) ?_
  refine Eq.trans (X_st f_167_615 rfl rfl) ?_
  refine Eq.trans (X_st f_167_617 rfl rfl) ?_
  refine Eq.trans (X_st f_167_618 rfl rfl) ?_
  refine Eq.trans (X_getR f_167_619 h0 rfl h1) ?_
  refine Eq.trans (X_st f_167_622 rfl (if_pos h2)) ?_
  refine Eq.trans (X_call f_167_623 (by decide) rfl rfl rfl rfl rfl rfl (Nat.le_of_ble_eq_true rfl) (Nat.le_of_ble_eq_true rfl) rfl (Nat.le_of_ble_eq_true rfl)) ?_
  exact mThen_eq fun v w9 => mX_maskK lm_167_626 rfl
theorem b_167_626 {d : Nat} {a0 : Nat} {a1 : Nat} {a2 : Nat} {x3 : Int32} {x4 : Nat} {x5 : Int32} {x7 : Int32} {y0 : Int32} {w : MW} (h0 : mTg w a2 = 10) (h1 : mR w a2 13 = some (gR w a2 13)) (h2 : 52 ≤ mTg w (gR w a2 13) ∧ mTg w (gR w a2 13) < 55) (h3 : x4 < 2147483648) (h4 : x4 < mLn w (gR w a2 13)) (h5 : mR w (gR w a2 13) x4 = some (gR w (gR w a2 13) x4)) : mX (d + 1) 167 626 [.ref a0, .ref a1, .ref a2, .int x3, .int (nI x4), .int x5, mJ, .int x7, mJ] [.int y0] w = mThen (mK d 163 [.int ((x5 >>> ((nI 4) &&& 31)) + ((nI 5) * x7)), .int (nI 15)] w) (fun v w9 => mX (d + 1) 167 651 [.ref a0, .ref a1, .ref a2, .int x3, .int (nI x4), .int x5, mJ, .int x7, .int y0] (v.toList ++ [.int y0, .ref (gR w (gR w a2 13) x4)]) w9) := by
  refine Eq.trans (X_istore (L' := [.ref a0, .ref a1, .ref a2, .int x3, .int (nI x4), .int x5, mJ, .int x7, .int y0]) f_167_626 (Nat.le_of_ble_eq_true rfl) rfl) ?_
  refine Eq.trans (X_st f_167_628 rfl rfl) ?_
  refine Eq.trans (X_getR f_167_629 h0 rfl h1) ?_
  refine Eq.trans (X_st f_167_632 rfl rfl) ?_
  refine Eq.trans (X_aald f_167_634 h2 (jnn h3) (jcl h3) h4 h5) ?_
  refine Eq.trans (X_st f_167_635 rfl rfl) ?_
  refine Eq.trans (X_st f_167_637 rfl rfl) ?_
  refine Eq.trans (X_iconst f_167_639 kc_i_4) ?_
  refine Eq.trans (X_st f_167_640 rfl rfl) ?_
  refine Eq.trans (X_iconst f_167_641 kc_i_5) ?_
  refine Eq.trans (X_st f_167_642 rfl rfl) ?_
  refine Eq.trans (X_st f_167_644 rfl rfl) ?_
  refine Eq.trans (X_st f_167_645 rfl rfl) ?_
  refine Eq.trans (X_bipush f_167_646 kc_b_15) ?_
  refine Eq.trans (X_call f_167_648 (by decide) rfl rfl rfl rfl rfl rfl (Nat.le_of_ble_eq_true rfl) (Nat.le_of_ble_eq_true rfl) rfl (Nat.le_of_ble_eq_true rfl)) ?_
  exact mThen_eq fun v w9 => mX_maskK lm_167_651 rfl
theorem b_167_651 {d : Nat} {a0 : Nat} {a1 : Nat} {a2 : Nat} {x3 : Int32} {x4 : Int32} {x5 : Int32} {x7 : Int32} {x8 : Int32} {y0 : Int32} {y1 : Nat} {b2 : Nat} {w : MW} (h0 : mTg w b2 = 50) (h1 : mE ≤ b2) (h2 : y1 < 2147483648) (h3 : y1 < mLn w b2) : mX d 167 651 [.ref a0, .ref a1, .ref a2, .int x3, .int x4, .int x5, mJ, .int x7, .int x8] [.int y0, .int (nI y1), .ref b2] w = mX d 167 652 [.ref a0, .ref a1, .ref a2, .int x3, .int x4, .int x5, mJ, .int x7, .int x8] [] (wI w b2 y1 y0) := by
  refine Eq.trans (X_iast f_167_651 h0 h1 (jnn h2) (jcl h2) h3) ?_
  exact mX_maskK lm_167_652 rfl
theorem b_167_652 {d : Nat} {a0 : Nat} {a1 : Nat} {a2 : Nat} {x3 : Int32} {x4 : Int32} {x5 : Int32} {x7 : Int32} {x8 : Int32} {w : MW} (h0 : mTg w a1 = 12) : mX (d + 1) 167 652 [.ref a0, .ref a1, .ref a2, .int x3, .int x4, .int x5, mJ, .int x7, .int x8] [] w = mThen (mK d 159 [.ref a1, .ref 140] w) (fun v w9 => mX (d + 1) 167 658 [.ref a0, .ref a1, .ref a2, .int x3, .int x4, .int x5, mJ, .int x7, .int x8] (v.toList ++ []) w9) := by
  refine Eq.trans (X_st f_167_652 rfl rfl) ?_
  refine Eq.trans (X_st f_167_653 rfl rfl) ?_
  refine Eq.trans (X_call f_167_655 (by decide) rfl rfl rfl rfl rfl rfl (Nat.le_of_ble_eq_true rfl) (Nat.le_of_ble_eq_true rfl) (decide_eq_true h0) (Nat.le_of_ble_eq_true rfl)) ?_
  exact mThen_eq fun v w9 => mX_maskK lm_167_658 rfl
theorem b_167_658 {d : Nat} {a0 : Nat} {a1 : Nat} {a2 : Nat} {x3 : Int32} {x4 : Int32} {x5 : Int32} {x7 : Int32} {x8 : Int32} {b0 : Nat} {w : MW} (h0 : mTg w b0 = 12) : mX (d + 1) 167 658 [.ref a0, .ref a1, .ref a2, .int x3, .int x4, .int x5, mJ, .int x7, .int x8] [.ref b0] w = mThen (mK d 160 [.ref b0, .int x8] w) (fun v w9 => mX (d + 1) 167 663 [.ref a0, .ref a1, .ref a2, .int x3, .int x4, .int x5, mJ, .int x7, .int x8] (v.toList ++ []) w9) := by
  refine Eq.trans (X_st f_167_658 rfl rfl) ?_
  refine Eq.trans (X_call f_167_660 (by decide) rfl rfl rfl rfl rfl rfl (Nat.le_of_ble_eq_true rfl) (Nat.le_of_ble_eq_true rfl) (decide_eq_true h0) (Nat.le_of_ble_eq_true rfl)) ?_
  exact mThen_eq fun v w9 => mX_maskK lm_167_663 rfl
theorem b_167_663 {d : Nat} {a0 : Nat} {a1 : Nat} {a2 : Nat} {x3 : Int32} {x4 : Int32} {x5 : Int32} {x7 : Int32} {x8 : Int32} {b0 : Nat} {w : MW} (h0 : mTg w b0 = 12) : mX (d + 1) 167 663 [.ref a0, .ref a1, .ref a2, .int x3, .int x4, .int x5, mJ, .int x7, .int x8] [.ref b0] w = mThen (mK d 159 [.ref b0, .ref 142] w) (fun v w9 => mX (d + 1) 167 668 [.ref a0, .ref a1, .ref a2, .int x3, .int x4, .int x5, mJ, .int x7, .int x8] (v.toList ++ []) w9) := by
  refine Eq.trans (X_st f_167_663 rfl rfl) ?_
  refine Eq.trans (X_call f_167_665 (by decide) rfl rfl rfl rfl rfl rfl (Nat.le_of_ble_eq_true rfl) (Nat.le_of_ble_eq_true rfl) (decide_eq_true h0) (Nat.le_of_ble_eq_true rfl)) ?_
  exact mThen_eq fun v w9 => mX_maskK lm_167_668 rfl
theorem b_167_668 {d : Nat} {a0 : Nat} {a1 : Nat} {a2 : Nat} {x3 : Int32} {x4 : Nat} {x5 : Int32} {x7 : Int32} {x8 : Nat} {b0 : Nat} {w : MW} (h0 : mTg w a2 = 10) (h1 : mR w a2 13 = some (gR w a2 13)) (h2 : 52 ≤ mTg w (gR w a2 13) ∧ mTg w (gR w a2 13) < 55) (h3 : x4 < 2147483648) (h4 : x4 < mLn w (gR w a2 13)) (h5 : mR w (gR w a2 13) x4 = some (gR w (gR w a2 13) x4)) (h6 : mTg w (gR w (gR w a2 13) x4) = 50) (h7 : x8 < 2147483648) (h8 : x8 < mLn w (gR w (gR w a2 13) x4)) (h9 : mTg w b0 = 12) : mX (d + 1) 167 668 [.ref a0, .ref a1, .ref a2, .int x3, .int (nI x4), .int x5, mJ, .int x7, .int (nI x8)] [.ref b0] w = mThen (mK d 160 [.ref b0, .int (mI w (gR w (gR w a2 13) x4) x8)] w) (fun v w9 => mX (d + 1) 167 681 [.ref a0, .ref a1, .ref a2, .int x3, .int (nI x4), .int x5, mJ, .int x7, mJ] (v.toList ++ []) w9) := by
  refine Eq.trans (X_st f_167_668 rfl rfl) ?_
  refine Eq.trans (X_getR f_167_669 h0 rfl h1) ?_
  refine Eq.trans (X_st f_167_672 rfl rfl) ?_
  refine Eq.trans (X_aald f_167_674 h2 (jnn h3) (jcl h3) h4 h5) ?_
  refine Eq.trans (X_st f_167_675 rfl rfl) ?_
  refine Eq.trans (X_iald f_167_677 h6 (jnn h7) (jcl h7) h8) ?_
  refine Eq.trans (X_call f_167_678 (by decide) rfl rfl rfl rfl rfl rfl (Nat.le_of_ble_eq_true rfl) (Nat.le_of_ble_eq_true rfl) (decide_eq_true h9) (Nat.le_of_ble_eq_true rfl)) ?_
  exact mThen_eq fun v w9 => mX_maskK lm_167_681 rfl
theorem b_167_681 {d : Nat} {a0 : Nat} {a1 : Nat} {a2 : Nat} {x3 : Int32} {x4 : Int32} {x5 : Int32} {x7 : Int32} {b0 : Nat} {w : MW} : mX d 167 681 [.ref a0, .ref a1, .ref a2, .int x3, .int x4, .int x5, mJ, .int x7, mJ] [.ref b0] w = mX d 167 596 [.ref a0, .ref a1, .ref a2, .int x3, .int x4, .int x5, mJ, .int (x7 + (nI 1)), mJ] [] w := by
  refine Eq.trans (X_pop f_167_681 rfl) ?_
  refine Eq.trans (X_iinc f_167_682 kc_i_1 rfl rfl) ?_
  refine Eq.trans (X_st f_167_685 rfl rfl) ?_
  exact mX_maskK lm_167_596 rfl
theorem b_167_688 {d : Nat} {a0 : Nat} {a1 : Nat} {a2 : Nat} {x3 : Int32} {x4 : Int32} {w : MW} (h0 : mTg w a1 = 12) : mX (d + 1) 167 688 [.ref a0, .ref a1, .ref a2, .int x3, .int x4, mJ, mJ, mJ, mJ] [] w = mThen (mK d 159 [.ref a1, .ref 144] w) (fun v w9 => mX (d + 1) 167 694 [.ref a0, .ref a1, .ref a2, .int x3, .int x4, mJ, mJ, mJ, mJ] (v.toList ++ []) w9) := by
  refine Eq.trans (X_st f_167_688 rfl rfl) ?_
  refine Eq.trans (X_st f_167_689 rfl rfl) ?_
  refine Eq.trans (X_call f_167_691 (by decide) rfl rfl rfl rfl rfl rfl (Nat.le_of_ble_eq_true rfl) (Nat.le_of_ble_eq_true rfl) (decide_eq_true h0) (Nat.le_of_ble_eq_true rfl)) ?_
  exact mThen_eq fun v w9 => mX_maskK lm_167_694 rfl
theorem b_167_694 {d : Nat} {a0 : Nat} {a1 : Nat} {a2 : Nat} {x3 : Int32} {x4 : Int32} {b0 : Nat} {w : MW} : mX d 167 694 [.ref a0, .ref a1, .ref a2, .int x3, .int x4, mJ, mJ, mJ, mJ] [.ref b0] w = mX d 167 492 [.ref a0, .ref a1, .ref a2, .int x3, .int (x4 + (nI 1)), mJ, mJ, mJ, mJ] [] w := by
  refine Eq.trans (X_pop f_167_694 rfl) ?_
  refine Eq.trans (X_iinc f_167_695 kc_i_1 rfl rfl) ?_
  refine Eq.trans (X_st f_167_698 rfl rfl) ?_
  exact mX_maskK lm_167_492 rfl
theorem b_167_701 {d : Nat} {a0 : Nat} {a1 : Nat} {a2 : Nat} {x3 : Int32} {w : MW} : mX (d + 1) 167 701 [.ref a0, .ref a1, .ref a2, .int x3, mJ, mJ, mJ, mJ, mJ] [] w = mThen (mK d 164 [.ref a0, .int (nI 4)] w) (fun v w9 => mX (d + 1) 167 708 [.ref a0, .ref a1, .ref a2, .int x3, mJ, mJ, mJ, mJ, mJ] (v.toList ++ [.int (nI 1), .ref a2]) w9) := by
  refine Eq.trans (X_st f_167_701 rfl rfl) ?_
  refine Eq.trans (X_iconst f_167_702 kc_i_1) ?_
  refine Eq.trans (X_st f_167_703 rfl rfl) ?_
  refine Eq.trans (X_iconst f_167_704 kc_i_4) ?_
  refine Eq.trans (X_call f_167_705 (by decide) rfl rfl rfl rfl rfl rfl (Nat.le_of_ble_eq_true rfl) (Nat.le_of_ble_eq_true rfl) rfl (Nat.le_of_ble_eq_true rfl)) ?_
  exact mThen_eq fun v w9 => mX_maskK lm_167_708 rfl
theorem b_167_708 {d : Nat} {a0 : Nat} {a1 : Nat} {a2 : Nat} {x3 : Int32} {y0 : Int32} {y1 : Int32} {b2 : Nat} {w : MW} : mX (d + 1) 167 708 [.ref a0, .ref a1, .ref a2, .int x3, mJ, mJ, mJ, mJ, mJ] [.int y0, .int y1, .ref b2] w = mThen (mK d 163 [.int y0, .int (nI 3)] w) (fun v w9 => mX (d + 1) 167 712 [.ref a0, .ref a1, .ref a2, .int x3, mJ, mJ, mJ, mJ, mJ] (v.toList ++ [.int y1, .ref b2]) w9) := by
  refine Eq.trans (X_iconst f_167_708 kc_i_3) ?_
  refine Eq.trans (X_call f_167_709 (by decide) rfl rfl rfl rfl rfl rfl (Nat.le_of_ble_eq_true rfl) (Nat.le_of_ble_eq_true rfl) rfl (Nat.le_of_ble_eq_true rfl)) ?_
  exact mThen_eq fun v w9 => mX_maskK lm_167_712 rfl
theorem b_167_712 {d : Nat} {a0 : Nat} {a1 : Nat} {a2 : Nat} {x3 : Int32} {y0 : Int32} {y1 : Int32} {b2 : Nat} {z0 : Nat} {w : MW} (h0 : (y1 + y0) = nI z0) (h1 : z0 < 2147483648) (h2 : z0 ≤ 134217728) : mX d 167 712 [.ref a0, .ref a1, .ref a2, .int x3, mJ, mJ, mJ, mJ, mJ] [.int y0, .int y1, .ref b2] w = mX d 167 716 [.ref a0, .ref a1, .ref a2, .int x3, mJ, mJ, mJ, mJ, mJ] [.ref (mSz w), .ref b2] (wN w 52 z0 z0) := by
  refine Eq.trans (X_st f_167_712 rfl rfl) ?_
  refine Eq.trans (X_newq f_167_713 (jnnE h0 h1) (jclE h0 h1) h2) ?_
  exact mX_maskK lm_167_716 rfl
theorem b_167_716 {d : Nat} {a0 : Nat} {a1 : Nat} {a2 : Nat} {x3 : Int32} {b0 : Nat} {b1 : Nat} {w : MW} (h0 : mTg w b1 = 10) (h1 : mE ≤ b1) : mX d 167 716 [.ref a0, .ref a1, .ref a2, .int x3, mJ, mJ, mJ, mJ, mJ] [.ref b0, .ref b1] w = mX d 167 719 [.ref a0, .ref a1, .ref a2, .int x3, mJ, mJ, mJ, mJ, mJ] [] (wR w b1 15 (some b0)) := by
  refine Eq.trans (X_putR f_167_716 h0 h1 rfl) ?_
  exact mX_maskK lm_167_719 rfl
theorem b_167_719 {d : Nat} {a0 : Nat} {a1 : Nat} {a2 : Nat} {x3 : Int32} {z0 : Nat} {w : MW} (h0 : mTg w a2 = 10) (h1 : mR w a2 15 = some (gR w a2 15)) (h2 : 50 ≤ mTg w (gR w a2 15) ∧ mTg w (gR w a2 15) < 55) (h3 : (nI (mLn w (gR w a2 15))) = nI z0) (h4 : z0 < 2147483648) (h5 : z0 ≤ 134217728) : mX d 167 719 [.ref a0, .ref a1, .ref a2, .int x3, mJ, mJ, mJ, mJ, mJ] [] w = mX d 167 728 [.ref a0, .ref a1, .ref a2, .int x3, mJ, mJ, mJ, mJ, mJ] [.ref (mSz w), .ref a2] (wN w 52 z0 z0) := by
  refine Eq.trans (X_st f_167_719 rfl rfl) ?_
  refine Eq.trans (X_st f_167_720 rfl rfl) ?_
  refine Eq.trans (X_getR f_167_721 h0 rfl h1) ?_
  refine Eq.trans (X_st f_167_724 rfl (if_pos h2)) ?_
  refine Eq.trans (X_newq f_167_725 (jnnE h3 h4) (jclE h3 h4) h5) ?_
  exact mX_maskK lm_167_728 rfl
theorem b_167_728 {d : Nat} {a0 : Nat} {a1 : Nat} {a2 : Nat} {x3 : Int32} {b0 : Nat} {b1 : Nat} {w : MW} (h0 : mTg w b1 = 10) (h1 : mE ≤ b1) : mX d 167 728 [.ref a0, .ref a1, .ref a2, .int x3, mJ, mJ, mJ, mJ, mJ] [.ref b0, .ref b1] w = mX d 167 731 [.ref a0, .ref a1, .ref a2, .int x3, mJ, mJ, mJ, mJ, mJ] [] (wR w b1 16 (some b0)) := by
  refine Eq.trans (X_putR f_167_728 h0 h1 rfl) ?_
  exact mX_maskK lm_167_731 rfl
theorem b_167_731 {d : Nat} {a0 : Nat} {a1 : Nat} {a2 : Nat} {x3 : Int32} {w : MW} : mX d 167 731 [.ref a0, .ref a1, .ref a2, .int x3, mJ, mJ, mJ, mJ, mJ] [] w = mX d 167 734 [.ref a0, .ref a1, .ref a2, .int x3, .int (nI 0), mJ, mJ, mJ, mJ] [] w := by
  refine Eq.trans (X_iconst f_167_731 kc_i_0) ?_
  refine Eq.trans (X_istore (L' := [.ref a0, .ref a1, .ref a2, .int x3, .int (nI 0), mJ, mJ, mJ, mJ]) f_167_732 (Nat.le_of_ble_eq_true rfl) rfl) ?_
  exact mX_maskK lm_167_734 rfl
theorem b_167_734 {d : Nat} {a0 : Nat} {a1 : Nat} {a2 : Nat} {x3 : Int32} {x4 : Int32} {w : MW} (h0 : mTg w a2 = 10) (h1 : mR w a2 15 = some (gR w a2 15)) (h2 : 50 ≤ mTg w (gR w a2 15) ∧ mTg w (gR w a2 15) < 55) : mX d 167 734 [.ref a0, .ref a1, .ref a2, .int x3, .int x4, mJ, mJ, mJ, mJ] [] w = (if (nI (mLn w (gR w a2 15))) ≤ x4 then mX d 167 956 [.ref a0, .ref a1, .ref a2, .int x3, mJ, mJ, mJ, mJ, mJ] [] w else mX d 167 744 [.ref a0, .ref a1, .ref a2, .int x3, .int x4, mJ, mJ, mJ, mJ] [] w) := by
  refine Eq.trans (X_st f_167_734 rfl rfl) ?_
  refine Eq.trans (X_st f_167_736 rfl rfl) ?_
  refine Eq.trans (X_getR f_167_737 h0 rfl h1) ?_
  refine Eq.trans (X_st f_167_740 rfl (if_pos h2)) ?_
  refine Eq.trans (X_br f_167_741 rfl rfl) ?_
  exact mIte_eq (mX_maskK lm_167_956 rfl) (mX_maskK lm_167_744 rfl)
theorem b_167_744 {d : Nat} {a0 : Nat} {a1 : Nat} {a2 : Nat} {x3 : Int32} {x4 : Int32} {w : MW} : mX (d + 1) 167 744 [.ref a0, .ref a1, .ref a2, .int x3, .int x4, mJ, mJ, mJ, mJ] [] w = mThen (mK d 164 [.ref a0, .int (nI 4)] w) (fun v w9 => mX (d + 1) 167 749 [.ref a0, .ref a1, .ref a2, .int x3, .int x4, mJ, mJ, mJ, mJ] (v.toList ++ []) w9) := by
  refine Eq.trans (X_st f_167_744 rfl rfl) ?_
  refine Eq.trans (X_iconst f_167_745 kc_i_4) ?_
  refine Eq.trans (X_call f_167_746 (by decide) rfl rfl rfl rfl rfl rfl (Nat.le_of_ble_eq_true rfl) (Nat.le_of_ble_eq_true rfl) rfl (Nat.le_of_ble_eq_true rfl)) ?_
  exact mThen_eq fun v w9 => mX_maskK lm_167_749 rfl
theorem b_167_749 {d : Nat} {a0 : Nat} {a1 : Nat} {a2 : Nat} {x3 : Int32} {x4 : Int32} {y0 : Int32} {w : MW} (h0 : mTg w a2 = 10) (h1 : mR w a2 15 = some (gR w a2 15)) : mX d 167 749 [.ref a0, .ref a1, .ref a2, .int x3, .int x4, mJ, mJ, mJ, mJ] [.int y0] w = mX d 167 767 [.ref a0, .ref a1, .ref a2, .int x3, .int x4, .int (y0 >>> (((nI 2) + ((nI 5) * x4)) &&& 31)), mJ, mJ, mJ] [.ref (mSz w), .int x4, .ref (gR w a2 15)] (wN w 50 2 2) := by
  refine Eq.trans (X_iconst f_167_749 kc_i_2) ?_
  refine Eq.trans (X_iconst f_167_750 kc_i_5) ?_
  refine Eq.trans (X_st f_167_751 rfl rfl) ?_
  refine Eq.trans (X_st f_167_753 rfl rfl) ?_
  refine Eq.trans (X_st f_167_754 rfl rfl) ?_
  refine Eq.trans (X_st f_167_755 rfl rfl) ?_
  refine Eq.trans (X_istore (L' := [.ref a0, .ref a1, .ref a2, .int x3, .int x4, .int (y0 >>> (((nI 2) + ((nI 5) * x4)) &&& 31)), mJ, mJ, mJ]) f_167_756 (Nat.le_of_ble_eq_true rfl) rfl) ?_
  refine Eq.trans (X_st f_167_758 rfl rfl) ?_
  refine Eq.trans (X_getR f_167_759 h0 rfl h1) ?_
  refine Eq.trans (X_st f_167_762 rfl rfl) ?_
  refine Eq.trans (X_iconst f_167_764 kc_i_2) ?_
  refine Eq.trans (X_newa f_167_765 kn_2 kl_2 (Nat.le_of_ble_eq_true rfl)) ?_
  exact mX_maskK lm_167_767 rfl
theorem b_167_767 {d : Nat} {a0 : Nat} {a1 : Nat} {a2 : Nat} {x3 : Int32} {x4 : Int32} {x5 : Int32} {b0 : Nat} {y1 : Int32} {b2 : Nat} {w : MW} : mX (d + 1) 167 767 [.ref a0, .ref a1, .ref a2, .int x3, .int x4, .int x5, mJ, mJ, mJ] [.ref b0, .int y1, .ref b2] w = mThen (mK d 163 [.int x5, .int (nI 4)] w) (fun v w9 => mX (d + 1) 167 775 [.ref a0, .ref a1, .ref a2, .int x3, .int x4, .int x5, mJ, mJ, mJ] (v.toList ++ [.int (nI 0), .ref b0, .ref b0, .int y1, .ref b2]) w9) := by
  refine Eq.trans (X_dup f_167_767 rfl) ?_
  refine Eq.trans (X_iconst f_167_768 kc_i_0) ?_
  refine Eq.trans (X_st f_167_769 rfl rfl) ?_
  refine Eq.trans (X_iconst f_167_771 kc_i_4) ?_
  refine Eq.trans (X_call f_167_772 (by decide) rfl rfl rfl rfl rfl rfl (Nat.le_of_ble_eq_true rfl) (Nat.le_of_ble_eq_true rfl) rfl (Nat.le_of_ble_eq_true rfl)) ?_
  exact mThen_eq fun v w9 => mX_maskK lm_167_775 rfl
theorem b_167_775 {d : Nat} {a0 : Nat} {a1 : Nat} {a2 : Nat} {x3 : Int32} {x4 : Int32} {x5 : Int32} {y0 : Int32} {y1 : Int32} {b2 : Nat} {b3 : Nat} {y4 : Int32} {b5 : Nat} {w : MW} : mX (d + 1) 167 775 [.ref a0, .ref a1, .ref a2, .int x3, .int x4, .int x5, mJ, mJ, mJ] [.int y0, .int y1, .ref b2, .ref b3, .int y4, .ref b5] w = mThen (mK d 163 [.int (x5 >>> ((nI 3) &&& 31)), .int (nI 3)] w) (fun v w9 => mX (d + 1) 167 788 [.ref a0, .ref a1, .ref a2, .int x3, .int x4, .int x5, mJ, mJ, mJ] (v.toList ++ [.int ((y0 * x4) * (nI 2)), .int y1, .ref b2, .ref b3, .int y4, .ref b5]) w9) := by
  refine Eq.trans (X_st f_167_775 rfl rfl) ?_
  refine Eq.trans (X_st f_167_777 rfl rfl) ?_
  refine Eq.trans (X_iconst f_167_778 kc_i_2) ?_
  refine Eq.trans (X_st f_167_779 rfl rfl) ?_
  refine Eq.trans (X_st f_167_780 rfl rfl) ?_
  refine Eq.trans (X_iconst f_167_782 kc_i_3) ?_
  refine Eq.trans (X_st f_167_783 rfl rfl) ?_
  refine Eq.trans (X_iconst f_167_784 kc_i_3) ?_
  refine Eq.trans (X_call f_167_785 (by decide) rfl rfl rfl rfl rfl rfl (Nat.le_of_ble_eq_true rfl) (Nat.le_of_ble_eq_true rfl) rfl (Nat.le_of_ble_eq_true rfl)) ?_
  exact mThen_eq fun v w9 => mX_maskK lm_167_788 rfl
theorem b_167_788 {d : Nat} {a0 : Nat} {a1 : Nat} {a2 : Nat} {x3 : Int32} {x4 : Int32} {x5 : Int32} {y0 : Int32} {y1 : Int32} {y2 : Nat} {b3 : Nat} {b4 : Nat} {y5 : Int32} {b6 : Nat} {w : MW} (h0 : mTg w b3 = 50) (h1 : mE ≤ b3) (h2 : y2 < 2147483648) (h3 : y2 < mLn w b3) : mX d 167 788 [.ref a0, .ref a1, .ref a2, .int x3, .int x4, .int x5, mJ, mJ, mJ] [.int y0, .int y1, .int (nI y2), .ref b3, .ref b4, .int y5, .ref b6] w = mX d 167 790 [.ref a0, .ref a1, .ref a2, .int x3, .int x4, .int x5, mJ, mJ, mJ] [.ref b4, .int y5, .ref b6] (wI w b3 y2 (y1 + y0)) := by
  refine Eq.trans (X_st f_167_788 rfl rfl) ?_
  refine Eq.trans (X_iast f_167_789 h0 h1 (jnn h2) (jcl h2) h3) ?_
  exact mX_maskK lm_167_790 rfl
theorem b_167_790 {d : Nat} {a0 : Nat} {a1 : Nat} {a2 : Nat} {x3 : Int32} {x4 : Int32} {x5 : Int32} {b0 : Nat} {y1 : Int32} {b2 : Nat} {w : MW} : mX (d + 1) 167 790 [.ref a0, .ref a1, .ref a2, .int x3, .int x4, .int x5, mJ, mJ, mJ] [.ref b0, .int y1, .ref b2] w = mThen (mK d 163 [.int (x5 >>> ((nI 2) &&& 31)), .int (nI 3)] w) (fun v w9 => mX (d + 1) 167 801 [.ref a0, .ref a1, .ref a2, .int x3, .int x4, .int x5, mJ, mJ, mJ] (v.toList ++ [.int (nI 1), .int (nI 1), .ref b0, .ref b0, .int y1, .ref b2]) w9) := by
  refine Eq.trans (X_dup f_167_790 rfl) ?_
  refine Eq.trans (X_iconst f_167_791 kc_i_1) ?_
  refine Eq.trans (X_iconst f_167_792 kc_i_1) ?_
  refine Eq.trans (X_st f_167_793 rfl rfl) ?_
  refine Eq.trans (X_iconst f_167_795 kc_i_2) ?_
  refine Eq.trans (X_st f_167_796 rfl rfl) ?_
  refine Eq.trans (X_iconst f_167_797 kc_i_3) ?_
  refine Eq.trans (X_call f_167_798 (by decide) rfl rfl rfl rfl rfl rfl (Nat.le_of_ble_eq_true rfl) (Nat.le_of_ble_eq_true rfl) rfl (Nat.le_of_ble_eq_true rfl)) ?_
  exact mThen_eq fun v w9 => mX_maskK lm_167_801 rfl
theorem b_167_801 {d : Nat} {a0 : Nat} {a1 : Nat} {a2 : Nat} {x3 : Int32} {x4 : Int32} {x5 : Int32} {y0 : Int32} {y1 : Int32} {y2 : Nat} {b3 : Nat} {b4 : Nat} {y5 : Int32} {b6 : Nat} {w : MW} (h0 : mTg w b3 = 50) (h1 : mE ≤ b3) (h2 : y2 < 2147483648) (h3 : y2 < mLn w b3) : mX d 167 801 [.ref a0, .ref a1, .ref a2, .int x3, .int x4, .int x5, mJ, mJ, mJ] [.int y0, .int y1, .int (nI y2), .ref b3, .ref b4, .int y5, .ref b6] w = mX d 167 803 [.ref a0, .ref a1, .ref a2, .int x3, .int x4, .int x5, mJ, mJ, mJ] [.ref b4, .int y5, .ref b6] (wI w b3 y2 (y1 + y0)) := by
  refine Eq.trans (X_st f_167_801 rfl rfl) ?_
  refine Eq.trans (X_iast f_167_802 h0 h1 (jnn h2) (jcl h2) h3) ?_
  exact mX_maskK lm_167_803 rfl
theorem b_167_803 {d : Nat} {a0 : Nat} {a1 : Nat} {a2 : Nat} {x3 : Int32} {x4 : Int32} {x5 : Int32} {b0 : Nat} {y1 : Nat} {b2 : Nat} {w : MW} (h0 : mTg w b2 = 52 ∧ mTg w b0 = 50 ∧ mE ≤ b0 ∨ mTg w b2 = 53 ∧ mTg w b0 = 4 ∨ mTg w b2 = 54 ∧ mTg w b0 = 11) (h1 : y1 < 2147483648) (h2 : y1 < mLn w b2) : mX d 167 803 [.ref a0, .ref a1, .ref a2, .int x3, .int x4, .int x5, mJ, mJ, mJ] [.ref b0, .int (nI y1), .ref b2] w = mX d 167 804 [.ref a0, .ref a1, .ref a2, .int x3, .int x4, .int x5, mJ, mJ, mJ] [] (wR w b2 y1 (some b0)) := by
  refine Eq.trans (X_aast f_167_803 h0 (jnn h1) (jcl h1) h2) ?_
  exact mX_maskK lm_167_804 rfl
theorem b_167_804 {d : Nat} {a0 : Nat} {a1 : Nat} {a2 : Nat} {x3 : Int32} {x4 : Int32} {x5 : Int32} {w : MW} (h0 : mTg w a2 = 10) (h1 : mR w a2 16 = some (gR w a2 16)) : mX (d + 1) 167 804 [.ref a0, .ref a1, .ref a2, .int x3, .int x4, .int x5, mJ, mJ, mJ] [] w = mThen (mK d 163 [.int (x5 >>> ((nI 4) &&& 31)), .int (nI 5)] w) (fun v w9 => mX (d + 1) 167 819 [.ref a0, .ref a1, .ref a2, .int x3, .int x4, .int x5, mJ, mJ, mJ] (v.toList ++ [.int (nI 1), .int x4, .ref (gR w a2 16)]) w9) := by
  refine Eq.trans (X_st f_167_804 rfl rfl) ?_
  refine Eq.trans (X_getR f_167_805 h0 rfl h1) ?_
  refine Eq.trans (X_st f_167_808 rfl rfl) ?_
  refine Eq.trans (X_iconst f_167_810 kc_i_1) ?_
  refine Eq.trans (X_st f_167_811 rfl rfl) ?_
  refine Eq.trans (X_iconst f_167_813 kc_i_4) ?_
  refine Eq.trans (X_st f_167_814 rfl rfl) ?_
  refine Eq.trans (X_iconst f_167_815 kc_i_5) ?_
  refine Eq.trans (X_call f_167_816 (by decide) rfl rfl rfl rfl rfl rfl (Nat.le_of_ble_eq_true rfl) (Nat.le_of_ble_eq_true rfl) rfl (Nat.le_of_ble_eq_true rfl)) ?_
  exact mThen_eq fun v w9 => mX_maskK lm_167_819 rfl
theorem b_167_819 {d : Nat} {a0 : Nat} {a1 : Nat} {a2 : Nat} {x3 : Int32} {x4 : Int32} {x5 : Int32} {y0 : Int32} {y1 : Int32} {y2 : Int32} {b3 : Nat} {z0 : Nat} {w : MW} (h0 : (y1 + y0) = nI z0) (h1 : z0 < 2147483648) (h2 : z0 ≤ 134217728) : mX d 167 819 [.ref a0, .ref a1, .ref a2, .int x3, .int x4, .int x5, mJ, mJ, mJ] [.int y0, .int y1, .int y2, .ref b3] w = mX d 167 822 [.ref a0, .ref a1, .ref a2, .int x3, .int x4, .int x5, mJ, mJ, mJ] [.ref (mSz w), .int y2, .ref b3] (wN w 50 z0 z0) := by
  refine Eq.trans (X_st f_167_819 rfl rfl) ?_
  refine Eq.trans (X_newa f_167_820 (jnnE h0 h1) (jclE h0 h1) h2) ?_
  exact mX_maskK lm_167_822 rfl
theorem b_167_822 {d : Nat} {a0 : Nat} {a1 : Nat} {a2 : Nat} {x3 : Int32} {x4 : Int32} {x5 : Int32} {b0 : Nat} {y1 : Nat} {b2 : Nat} {w : MW} (h0 : mTg w b2 = 52 ∧ mTg w b0 = 50 ∧ mE ≤ b0 ∨ mTg w b2 = 53 ∧ mTg w b0 = 4 ∨ mTg w b2 = 54 ∧ mTg w b0 = 11) (h1 : y1 < 2147483648) (h2 : y1 < mLn w b2) : mX d 167 822 [.ref a0, .ref a1, .ref a2, .int x3, .int x4, .int x5, mJ, mJ, mJ] [.ref b0, .int (nI y1), .ref b2] w = mX d 167 823 [.ref a0, .ref a1, .ref a2, .int x3, .int x4, .int x5, mJ, mJ, mJ] [] (wR w b2 y1 (some b0)) := by
  refine Eq.trans (X_aast f_167_822 h0 (jnn h1) (jcl h1) h2) ?_
  exact mX_maskK lm_167_823 rfl
theorem b_167_823 {d : Nat} {a0 : Nat} {a1 : Nat} {a2 : Nat} {x3 : Int32} {x4 : Int32} {x5 : Int32} {w : MW} (h0 : mTg w a1 = 12) : mX (d + 1) 167 823 [.ref a0, .ref a1, .ref a2, .int x3, .int x4, .int x5, mJ, mJ, mJ] [] w = mThen (mK d 159 [.ref a1, .ref 146] w) (fun v w9 => mX (d + 1) 167 829 [.ref a0, .ref a1, .ref a2, .int x3, .int x4, .int x5, mJ, mJ, mJ] (v.toList ++ []) w9) := by
  refine Eq.trans (X_st f_167_823 rfl rfl) ?_
  refine Eq.trans (X_st f_167_824 rfl rfl) ?_
  refine Eq.trans (X_call f_167_826 (by decide) rfl rfl rfl rfl rfl rfl (Nat.le_of_ble_eq_true rfl) (Nat.le_of_ble_eq_true rfl) (decide_eq_true h0) (Nat.le_of_ble_eq_true rfl)) ?_
  exact mThen_eq fun v w9 => mX_maskK lm_167_829 rfl
theorem b_167_829 {d : Nat} {a0 : Nat} {a1 : Nat} {a2 : Nat} {x3 : Int32} {x4 : Int32} {x5 : Int32} {b0 : Nat} {w : MW} (h0 : mTg w b0 = 12) : mX (d + 1) 167 829 [.ref a0, .ref a1, .ref a2, .int x3, .int x4, .int x5, mJ, mJ, mJ] [.ref b0] w = mThen (mK d 160 [.ref b0, .int x4] w) (fun v w9 => mX (d + 1) 167 834 [.ref a0, .ref a1, .ref a2, .int x3, .int x4, .int x5, mJ, mJ, mJ] (v.toList ++ []) w9) := by
  refine Eq.trans (X_st f_167_829 rfl rfl) ?_
  refine Eq.trans (X_call f_167_831 (by decide) rfl rfl rfl rfl rfl rfl (Nat.le_of_ble_eq_true rfl) (Nat.le_of_ble_eq_true rfl) (decide_eq_true h0) (Nat.le_of_ble_eq_true rfl)) ?_
  exact mThen_eq fun v w9 => mX_maskK lm_167_834 rfl
theorem b_167_834 {d : Nat} {a0 : Nat} {a1 : Nat} {a2 : Nat} {x3 : Int32} {x4 : Int32} {x5 : Int32} {b0 : Nat} {w : MW} (h0 : mTg w b0 = 12) : mX (d + 1) 167 834 [.ref a0, .ref a1, .ref a2, .int x3, .int x4, .int x5, mJ, mJ, mJ] [.ref b0] w = mThen (mK d 159 [.ref b0, .ref 148] w) (fun v w9 => mX (d + 1) 167 839 [.ref a0, .ref a1, .ref a2, .int x3, .int x4, .int x5, mJ, mJ, mJ] (v.toList ++ []) w9) := by
  refine Eq.trans (X_st f_167_834 rfl rfl) ?_
  refine Eq.trans (X_call f_167_836 (by decide) rfl rfl rfl rfl rfl rfl (Nat.le_of_ble_eq_true rfl) (Nat.le_of_ble_eq_true rfl) (decide_eq_true h0) (Nat.le_of_ble_eq_true rfl)) ?_
  exact mThen_eq fun v w9 => mX_maskK lm_167_839 rfl
theorem b_167_839 {d : Nat} {a0 : Nat} {a1 : Nat} {a2 : Nat} {x3 : Int32} {x4 : Nat} {x5 : Int32} {b0 : Nat} {w : MW} (h0 : mTg w a2 = 10) (h1 : mR w a2 15 = some (gR w a2 15)) (h2 : 52 ≤ mTg w (gR w a2 15) ∧ mTg w (gR w a2 15) < 55) (h3 : x4 < 2147483648) (h4 : x4 < mLn w (gR w a2 15)) (h5 : mR w (gR w a2 15) x4 = some (gR w (gR w a2 15) x4)) (h6 : mTg w (gR w (gR w a2 15) x4) = 50) (h7 : 0 < mLn w (gR w (gR w a2 15) x4)) (h8 : mTg w b0 = 12) : mX (d + 1) 167 839 [.ref a0, .ref a1, .ref a2, .int x3, .int (nI x4), .int x5, mJ, mJ, mJ] [.ref b0] w = mThen (mK d 160 [.ref b0, .int (mI w (gR w (gR w a2 15) x4) 0)] w) (fun v w9 => mX (d + 1) 167 851 [.ref a0, .ref a1, .ref a2, .int x3, .int (nI x4), .int x5, mJ, mJ, mJ] (v.toList ++ []) w9) := by
  refine Eq.trans (X_st f_167_839 rfl rfl) ?_
  refine Eq.trans (X_getR f_167_840 h0 rfl h1) ?_
  refine Eq.trans (X_st f_167_843 rfl rfl) ?_
  refine Eq.trans (X_aald f_167_845 h2 (jnn h3) (jcl h3) h4 h5) ?_
  refine Eq.trans (X_iconst f_167_846 kc_i_0) ?_
  refine Eq.trans (X_iald f_167_847 h6 kn_0 kl_0 h7) ?_
  refine Eq.trans (X_call f_167_848 (by decide) rfl rfl rfl rfl rfl rfl (Nat.le_of_ble_eq_true rfl) (Nat.le_of_ble_eq_true rfl) (decide_eq_true h8) (Nat.le_of_ble_eq_true rfl)) ?_
  exact mThen_eq fun v w9 => mX_maskK lm_167_851 rfl
theorem b_167_851 {d : Nat} {a0 : Nat} {a1 : Nat} {a2 : Nat} {x3 : Int32} {x4 : Int32} {x5 : Int32} {b0 : Nat} {w : MW} (h0 : mTg w b0 = 12) : mX (d + 1) 167 851 [.ref a0, .ref a1, .ref a2, .int x3, .int x4, .int x5, mJ, mJ, mJ] [.ref b0] w = mThen (mK d 159 [.ref b0, .ref 150] w) (fun v w9 => mX (d + 1) 167 856 [.ref a0, .ref a1, .ref a2, .int x3, .int x4, .int x5, mJ, mJ, mJ] (v.toList ++ []) w9) := by
  refine Eq.trans (X_st f_167_851 rfl rfl) ?_
  refine Eq.trans (X_call f_167_853 (by decide) rfl rfl rfl rfl rfl rfl (Nat.le_of_ble_eq_true rfl) (Nat.le_of_ble_eq_true rfl) (decide_eq_true h0) (Nat.le_of_ble_eq_true rfl)) ?_
  exact mThen_eq fun v w9 => mX_maskK lm_167_856 rfl
theorem b_167_856 {d : Nat} {a0 : Nat} {a1 : Nat} {a2 : Nat} {x3 : Int32} {x4 : Nat} {x5 : Int32} {b0 : Nat} {w : MW} (h0 : mTg w a2 = 10) (h1 : mR w a2 15 = some (gR w a2 15)) (h2 : 52 ≤ mTg w (gR w a2 15) ∧ mTg w (gR w a2 15) < 55) (h3 : x4 < 2147483648) (h4 : x4 < mLn w (gR w a2 15)) (h5 : mR w (gR w a2 15) x4 = some (gR w (gR w a2 15) x4)) (h6 : mTg w (gR w (gR w a2 15) x4) = 50) (h7 : 1 < mLn w (gR w (gR w a2 15) x4)) (h8 : mTg w b0 = 12) : mX (d + 1) 167 856 [.ref a0, .ref a1, .ref a2, .int x3, .int (nI x4), .int x5, mJ, mJ, mJ] [.ref b0] w = mThen (mK d 160 [.ref b0, .int (mI w (gR w (gR w a2 15) x4) 1)] w) (fun v w9 => mX (d + 1) 167 868 [.ref a0, .ref a1, .ref a2, .int x3, .int (nI x4), .int x5, mJ, mJ, mJ] (v.toList ++ []) w9) := by
  refine Eq.trans (X_st f_167_856 rfl rfl) ?_
  refine Eq.trans (X_getR f_167_857 h0 rfl h1) ?_
  refine Eq.trans (X_st f_167_860 rfl rfl) ?_
  refine Eq.trans (X_aald f_167_862 h2 (jnn h3) (jcl h3) h4 h5) ?_
  refine Eq.trans (X_iconst f_167_863 kc_i_1) ?_
  refine Eq.trans (X_iald f_167_864 h6 kn_1 kl_1 h7) ?_
  refine Eq.trans (X_call f_167_865 (by decide) rfl rfl rfl rfl rfl rfl (Nat.le_of_ble_eq_true rfl) (Nat.le_of_ble_eq_true rfl) (decide_eq_true h8) (Nat.le_of_ble_eq_true rfl)) ?_
  exact mThen_eq fun v w9 => mX_maskK lm_167_868 rfl
theorem b_167_868 {d : Nat} {a0 : Nat} {a1 : Nat} {a2 : Nat} {x3 : Int32} {x4 : Int32} {x5 : Int32} {b0 : Nat} {w : MW} (h0 : mTg w b0 = 12) : mX (d + 1) 167 868 [.ref a0, .ref a1, .ref a2, .int x3, .int x4, .int x5, mJ, mJ, mJ] [.ref b0] w = mThen (mK d 159 [.ref b0, .ref 152] w) (fun v w9 => mX (d + 1) 167 873 [.ref a0, .ref a1, .ref a2, .int x3, .int x4, .int x5, mJ, mJ, mJ] (v.toList ++ []) w9) := by
  refine Eq.trans (X_st f_167_868 rfl rfl) ?_
  refine Eq.trans (X_call f_167_870 (by decide) rfl rfl rfl rfl rfl rfl (Nat.le_of_ble_eq_true rfl) (Nat.le_of_ble_eq_true rfl) (decide_eq_true h0) (Nat.le_of_ble_eq_true rfl)) ?_
  exact mThen_eq fun v w9 => mX_maskK lm_167_873 rfl
theorem b_167_873 {d : Nat} {a0 : Nat} {a1 : Nat} {a2 : Nat} {x3 : Int32} {x4 : Int32} {x5 : Int32} {b0 : Nat} {w : MW} : mX d 167 873 [.ref a0, .ref a1, .ref a2, .int x3, .int x4, .int x5, mJ, mJ, mJ] [.ref b0] w = mX d 167 877 [.ref a0, .ref a1, .ref a2, .int x3, .int x4, .int x5, .int (nI 0), mJ, mJ] [] w := by
  refine Eq.trans (X_pop f_167_873 rfl) ?_
  refine Eq.trans (X_iconst f_167_874 kc_i_0) ?_
  refine Eq.trans (X_istore (L' := [.ref a0, .ref a1, .ref a2, .int x3, .int x4, .int x5, .int (nI 0), mJ, mJ]) f_167_875 (Nat.le_of_ble_eq_true rfl) rfl) ?_
  exact mX_maskK lm_167_877 rfl
theorem b_167_877 {d : Nat} {a0 : Nat} {a1 : Nat} {a2 : Nat} {x3 : Int32} {x4 : Nat} {x5 : Int32} {x6 : Int32} {w : MW} (h0 : mTg w a2 = 10) (h1 : mR w a2 16 = some (gR w a2 16)) (h2 : 52 ≤ mTg w (gR w a2 16) ∧ mTg w (gR w a2 16) < 55) (h3 : x4 < 2147483648) (h4 : x4 < mLn w (gR w a2 16)) (h5 : mR w (gR w a2 16) x4 = some (gR w (gR w a2 16) x4)) (h6 : 50 ≤ mTg w (gR w (gR w a2 16) x4) ∧ mTg w (gR w (gR w a2 16) x4) < 55) : mX d 167 877 [.ref a0, .ref a1, .ref a2, .int x3, .int (nI x4), .int x5, .int x6, mJ, mJ] [] w = (if (nI (mLn w (gR w (gR w a2 16) x4))) ≤ x6 then mX d 167 943 [.ref a0, .ref a1, .ref a2, .int x3, .int (nI x4), mJ, mJ, mJ, mJ] [] w else mX d 167 890 [.ref a0, .ref a1, .ref a2, .int x3, .int (nI x4), .int x5, .int x6, mJ, mJ] [] w) := by
  refine Eq.trans (X_st f_167_877 rfl rfl) ?_
  refine Eq.trans (X_st f_167_879 rfl rfl) ?_
  refine Eq.trans (X_getR f_167_880 h0 rfl h1) ?_
  refine Eq.trans (X_st f_167_883 rfl rfl) ?_
  refine Eq.trans (X_aald f_167_885 h2 (jnn h3) (jcl h3) h4 h5) ?_
  refine Eq.trans (X_st f_167_886 rfl (if_pos h6)) ?_
  refine Eq.trans (X_br f_167_887 rfl rfl) ?_
  exact mIte_eq (mX_maskK lm_167_943 rfl) (mX_maskK lm_167_890 rfl)
theorem b_167_890 {d : Nat} {a0 : Nat} {a1 : Nat} {a2 : Nat} {x3 : Int32} {x4 : Nat} {x5 : Int32} {x6 : Int32} {w : MW} (h0 : mTg w a2 = 10) (h1 : mR w a2 16 = some (gR w a2 16)) (h2 : 52 ≤ mTg w (gR w a2 16) ∧ mTg w (gR w a2 16) < 55) (h3 : x4 < 2147483648) (h4 : x4 < mLn w (gR w a2 16)) (h5 : mR w (gR w a2 16) x4 = some (gR w (gR w a2 16) x4)) (h6 : mR w a2 10 = some (gR w a2 10)) (h7 : 50 ≤ mTg w (gR w a2 10) ∧ mTg w (gR w a2 10) < 55) : mX (d + 1) 167 890 [.ref a0, .ref a1, .ref a2, .int x3, .int (nI x4), .int x5, .int x6, mJ, mJ] [] w = mThen (mK d 163 [.int ((x5 >>> ((nI 1) &&& 31)) + ((nI 3) * x6)), .int (nI (mLn w (gR w a2 10)))] w) (fun v w9 => mX (d + 1) 167 916 [.ref a0, .ref a1, .ref a2, .int x3, .int (nI x4), .int x5, .int x6, mJ, mJ] (v.toList ++ [.int x6, .ref (gR w (gR w a2 16) x4)]) w9) := by
  refine Eq.trans (X_st f_167_890 rfl rfl) ?_
  refine Eq.trans (X_getR f_167_891 h0 rfl h1) ?_
  refine Eq.trans (X_st f_167_894 rfl rfl) ?_
  refine Eq.trans (X_aald f_167_896 h2 (jnn h3) (jcl h3) h4 h5) ?_
  refine Eq.trans (X_st f_167_897 rfl rfl) ?_
  refine Eq.trans (X_st f_167_899 rfl rfl) ?_
  refine Eq.trans (X_iconst f_167_901 kc_i_1) ?_
  refine Eq.trans (X_st f_167_902 rfl rfl) ?_
  refine Eq.trans (X_iconst f_167_903 kc_i_3) ?_
  refine Eq.trans (X_st f_167_904 rfl rfl) ?_
  refine Eq.trans (X_st f_167_906 rfl rfl) ?_
  refine Eq.trans (X_st f_167_907 rfl rfl) ?_
  refine Eq.trans (X_st f_167_908 rfl rfl) ?_
  refine Eq.trans (X_getR f_167_909 h0 rfl h6) ?_
  refine Eq.trans (X_st f_167_912 rfl (if_pos h7)) ?_
  refine Eq.trans (X_call f_167_913 (by decide) rfl rfl rfl rfl rfl rfl (Nat.le_of_ble_eq_true rfl) (Nat.le_of_ble_eq_true rfl) rfl (Nat.le_of_ble_eq_true rfl)) ?_
  exact mThen_eq fun v w9 => mX_maskK lm_167_916 rfl
theorem b_167_916 {d : Nat} {a0 : Nat} {a1 : Nat} {a2 : Nat} {x3 : Int32} {x4 : Int32} {x5 : Int32} {x6 : Int32} {y0 : Int32} {y1 : Nat} {b2 : Nat} {w : MW} (h0 : mTg w b2 = 50) (h1 : mE ≤ b2) (h2 : y1 < 2147483648) (h3 : y1 < mLn w b2) : mX d 167 916 [.ref a0, .ref a1, .ref a2, .int x3, .int x4, .int x5, .int x6, mJ, mJ] [.int y0, .int (nI y1), .ref b2] w = mX d 167 917 [.ref a0, .ref a1, .ref a2, .int x3, .int x4, .int x5, .int x6, mJ, mJ] [] (wI w b2 y1 y0) := by
  refine Eq.trans (X_iast f_167_916 h0 h1 (jnn h2) (jcl h2) h3) ?_
  exact mX_maskK lm_167_917 rfl
theorem b_167_917 {d : Nat} {a0 : Nat} {a1 : Nat} {a2 : Nat} {x3 : Int32} {x4 : Int32} {x5 : Int32} {x6 : Int32} {w : MW} (h0 : mTg w a1 = 12) : mX (d + 1) 167 917 [.ref a0, .ref a1, .ref a2, .int x3, .int x4, .int x5, .int x6, mJ, mJ] [] w = mThen (mK d 159 [.ref a1, .ref 72] w) (fun v w9 => mX (d + 1) 167 923 [.ref a0, .ref a1, .ref a2, .int x3, .int x4, .int x5, .int x6, mJ, mJ] (v.toList ++ []) w9) := by
  refine Eq.trans (X_st f_167_917 rfl rfl) ?_
  refine Eq.trans (X_st f_167_918 rfl rfl) ?_
  refine Eq.trans (X_call f_167_920 (by decide) rfl rfl rfl rfl rfl rfl (Nat.le_of_ble_eq_true rfl) (Nat.le_of_ble_eq_true rfl) (decide_eq_true h0) (Nat.le_of_ble_eq_true rfl)) ?_
  exact mThen_eq fun v w9 => mX_maskK lm_167_923 rfl
theorem b_167_923 {d : Nat} {a0 : Nat} {a1 : Nat} {a2 : Nat} {x3 : Int32} {x4 : Nat} {x5 : Int32} {x6 : Nat} {b0 : Nat} {w : MW} (h0 : mTg w a2 = 10) (h1 : mR w a2 16 = some (gR w a2 16)) (h2 : 52 ≤ mTg w (gR w a2 16) ∧ mTg w (gR w a2 16) < 55) (h3 : x4 < 2147483648) (h4 : x4 < mLn w (gR w a2 16)) (h5 : mR w (gR w a2 16) x4 = some (gR w (gR w a2 16) x4)) (h6 : mTg w (gR w (gR w a2 16) x4) = 50) (h7 : x6 < 2147483648) (h8 : x6 < mLn w (gR w (gR w a2 16) x4)) (h9 : mTg w b0 = 12) : mX (d + 1) 167 923 [.ref a0, .ref a1, .ref a2, .int x3, .int (nI x4), .int x5, .int (nI x6), mJ, mJ] [.ref b0] w = mThen (mK d 160 [.ref b0, .int (mI w (gR w (gR w a2 16) x4) x6)] w) (fun v w9 => mX (d + 1) 167 936 [.ref a0, .ref a1, .ref a2, .int x3, .int (nI x4), .int x5, .int (nI x6), mJ, mJ] (v.toList ++ []) w9) := by
  refine Eq.trans (X_st f_167_923 rfl rfl) ?_
  refine Eq.trans (X_getR f_167_924 h0 rfl h1) ?_
  refine Eq.trans (X_st f_167_927 rfl rfl) ?_
  refine Eq.trans (X_aald f_167_929 h2 (jnn h3) (jcl h3) h4 h5) ?_
  refine Eq.trans (X_st f_167_930 rfl rfl) ?_
  refine Eq.trans (X_iald f_167_932 h6 (jnn h7) (jcl h7) h8) ?_
  refine Eq.trans (X_call f_167_933 (by decide) rfl rfl rfl rfl rfl rfl (Nat.le_of_ble_eq_true rfl) (Nat.le_of_ble_eq_true rfl) (decide_eq_true h9) (Nat.le_of_ble_eq_true rfl)) ?_
  exact mThen_eq fun v w9 => mX_maskK lm_167_936 rfl
theorem b_167_936 {d : Nat} {a0 : Nat} {a1 : Nat} {a2 : Nat} {x3 : Int32} {x4 : Int32} {x5 : Int32} {x6 : Int32} {b0 : Nat} {w : MW} : mX d 167 936 [.ref a0, .ref a1, .ref a2, .int x3, .int x4, .int x5, .int x6, mJ, mJ] [.ref b0] w = mX d 167 877 [.ref a0, .ref a1, .ref a2, .int x3, .int x4, .int x5, .int (x6 + (nI 1)), mJ, mJ] [] w := by
  refine Eq.trans (X_pop f_167_936 rfl) ?_
  refine Eq.trans (X_iinc f_167_937 kc_i_1 rfl rfl) ?_
  refine Eq.trans (X_st f_167_940 rfl rfl) ?_
  exact mX_maskK lm_167_877 rfl
theorem b_167_943 {d : Nat} {a0 : Nat} {a1 : Nat} {a2 : Nat} {x3 : Int32} {x4 : Int32} {w : MW} (h0 : mTg w a1 = 12) : mX (d + 1) 167 943 [.ref a0, .ref a1, .ref a2, .int x3, .int x4, mJ, mJ, mJ, mJ] [] w = mThen (mK d 159 [.ref a1, .ref 118] w) (fun v w9 => mX (d + 1) 167 949 [.ref a0, .ref a1, .ref a2, .int x3, .int x4, mJ, mJ, mJ, mJ] (v.toList ++ []) w9) := by
  refine Eq.trans (X_st f_167_943 rfl rfl) ?_
  refine Eq.trans (X_st f_167_944 rfl rfl) ?_
  refine Eq.trans (X_call f_167_946 (by decide) rfl rfl rfl rfl rfl rfl (Nat.le_of_ble_eq_true rfl) (Nat.le_of_ble_eq_true rfl) (decide_eq_true h0) (Nat.le_of_ble_eq_true rfl)) ?_
  exact mThen_eq fun v w9 => mX_maskK lm_167_949 rfl
theorem b_167_949 {d : Nat} {a0 : Nat} {a1 : Nat} {a2 : Nat} {x3 : Int32} {x4 : Int32} {b0 : Nat} {w : MW} : mX d 167 949 [.ref a0, .ref a1, .ref a2, .int x3, .int x4, mJ, mJ, mJ, mJ] [.ref b0] w = mX d 167 734 [.ref a0, .ref a1, .ref a2, .int x3, .int (x4 + (nI 1)), mJ, mJ, mJ, mJ] [] w := by
  refine Eq.trans (X_pop f_167_949 rfl) ?_
  refine Eq.trans (X_iinc f_167_950 kc_i_1 rfl rfl) ?_
  refine Eq.trans (X_st f_167_953 rfl rfl) ?_
  exact mX_maskK lm_167_734 rfl
theorem b_167_956 {d : Nat} {a0 : Nat} {a1 : Nat} {a2 : Nat} {x3 : Int32} {w : MW} : mX (d + 1) 167 956 [.ref a0, .ref a1, .ref a2, .int x3, mJ, mJ, mJ, mJ, mJ] [] w = mThen (mK d 164 [.ref a0, .int (nI 5)] w) (fun v w9 => mX (d + 1) 167 962 [.ref a0, .ref a1, .ref a2, .int x3, mJ, mJ, mJ, mJ, mJ] (v.toList ++ [.ref a2]) w9) := by
  refine Eq.trans (X_st f_167_956 rfl rfl) ?_
  refine Eq.trans (X_st f_167_957 rfl rfl) ?_
  refine Eq.trans (X_iconst f_167_958 kc_i_5) ?_
  refine Eq.trans (X_call f_167_959 (by decide) rfl rfl rfl rfl rfl rfl (Nat.le_of_ble_eq_true rfl) (Nat.le_of_ble_eq_true rfl) rfl (Nat.le_of_ble_eq_true rfl)) ?_
  exact mThen_eq fun v w9 => mX_maskK lm_167_962 rfl
theorem b_167_962 {d : Nat} {a0 : Nat} {a1 : Nat} {a2 : Nat} {x3 : Int32} {y0 : Int32} {b1 : Nat} {w : MW} : mX (d + 1) 167 962 [.ref a0, .ref a1, .ref a2, .int x3, mJ, mJ, mJ, mJ, mJ] [.int y0, .ref b1] w = mThen (mK d 163 [.int y0, .int (nI 9)] w) (fun v w9 => mX (d + 1) 167 967 [.ref a0, .ref a1, .ref a2, .int x3, mJ, mJ, mJ, mJ, mJ] (v.toList ++ [.ref b1]) w9) := by
  refine Eq.trans (X_bipush f_167_962 kc_b_9) ?_
  refine Eq.trans (X_call f_167_964 (by decide) rfl rfl rfl rfl rfl rfl (Nat.le_of_ble_eq_true rfl) (Nat.le_of_ble_eq_true rfl) rfl (Nat.le_of_ble_eq_true rfl)) ?_
  exact mThen_eq fun v w9 => mX_maskK lm_167_967 rfl
theorem b_167_967 {d : Nat} {a0 : Nat} {a1 : Nat} {a2 : Nat} {x3 : Int32} {y0 : Nat} {b1 : Nat} {w : MW} (h0 : y0 < 2147483648) (h1 : y0 ≤ 134217728) : mX d 167 967 [.ref a0, .ref a1, .ref a2, .int x3, mJ, mJ, mJ, mJ, mJ] [.int (nI y0), .ref b1] w = mX d 167 970 [.ref a0, .ref a1, .ref a2, .int x3, mJ, mJ, mJ, mJ, mJ] [.ref (mSz w), .ref b1] (wN w 52 y0 y0) := by
  refine Eq.trans (X_newq f_167_967 (jnn h0) (jcl h0) h1) ?_
  exact mX_maskK lm_167_970 rfl
theorem b_167_970 {d : Nat} {a0 : Nat} {a1 : Nat} {a2 : Nat} {x3 : Int32} {b0 : Nat} {b1 : Nat} {w : MW} (h0 : mTg w b1 = 10) (h1 : mE ≤ b1) : mX d 167 970 [.ref a0, .ref a1, .ref a2, .int x3, mJ, mJ, mJ, mJ, mJ] [.ref b0, .ref b1] w = mX d 167 973 [.ref a0, .ref a1, .ref a2, .int x3, mJ, mJ, mJ, mJ, mJ] [] (wR w b1 17 (some b0)) := by
  refine Eq.trans (X_putR f_167_970 h0 h1 rfl) ?_
  exact mX_maskK lm_167_973 rfl
theorem b_167_973 {d : Nat} {a0 : Nat} {a1 : Nat} {a2 : Nat} {x3 : Int32} {w : MW} : mX d 167 973 [.ref a0, .ref a1, .ref a2, .int x3, mJ, mJ, mJ, mJ, mJ] [] w = mX d 167 977 [.ref a0, .ref a1, .ref a2, .int x3, mJ, mJ, mJ, mJ, mJ] [.ref (mSz w)] (wN w 54 3 3) := by
  refine Eq.trans (X_iconst f_167_973 kc_i_3) ?_
  refine Eq.trans (X_newq f_167_974 kn_3 kl_3 (Nat.le_of_ble_eq_true rfl)) ?_
  exact mX_maskK lm_167_977 rfl
theorem b_167_977 {d : Nat} {a0 : Nat} {a1 : Nat} {a2 : Nat} {x3 : Int32} {b0 : Nat} {w : MW} (h0 : mTg w b0 = 52 ∧ mTg w 154 = 50 ∧ mE ≤ 154 ∨ mTg w b0 = 53 ∧ mTg w 154 = 4 ∨ mTg w b0 = 54 ∧ mTg w 154 = 11) (h1 : 0 < mLn w b0) : mX d 167 977 [.ref a0, .ref a1, .ref a2, .int x3, mJ, mJ, mJ, mJ, mJ] [.ref b0] w = mX d 167 982 [.ref a0, .ref a1, .ref a2, .int x3, mJ, mJ, mJ, mJ, mJ] [.ref b0] (wR w b0 0 (some 154)) := by
  refine Eq.trans (X_dup f_167_977 rfl) ?_
  refine Eq.trans (X_iconst f_167_978 kc_i_0) ?_
  refine Eq.trans (X_st f_167_979 rfl rfl) ?_
  refine Eq.trans (X_aast f_167_981 h0 kn_0 kl_0 h1) ?_
  exact mX_maskK lm_167_982 rfl
theorem b_167_982 {d : Nat} {a0 : Nat} {a1 : Nat} {a2 : Nat} {x3 : Int32} {b0 : Nat} {w : MW} (h0 : mTg w b0 = 52 ∧ mTg w 156 = 50 ∧ mE ≤ 156 ∨ mTg w b0 = 53 ∧ mTg w 156 = 4 ∨ mTg w b0 = 54 ∧ mTg w 156 = 11) (h1 : 1 < mLn w b0) : mX d 167 982 [.ref a0, .ref a1, .ref a2, .int x3, mJ, mJ, mJ, mJ, mJ] [.ref b0] w = mX d 167 987 [.ref a0, .ref a1, .ref a2, .int x3, mJ, mJ, mJ, mJ, mJ] [.ref b0] (wR w b0 1 (some 156)) := by
  refine Eq.trans (X_dup f_167_982 rfl) ?_
  refine Eq.trans (X_iconst f_167_983 kc_i_1) ?_
  refine Eq.trans (X_st f_167_984 rfl rfl) ?_
  refine Eq.trans (X_aast f_167_986 h0 kn_1 kl_1 h1) ?_
  exact mX_maskK lm_167_987 rfl
theorem b_167_987 {d : Nat} {a0 : Nat} {a1 : Nat} {a2 : Nat} {x3 : Int32} {b0 : Nat} {w : MW} (h0 : mTg w b0 = 52 ∧ mTg w 158 = 50 ∧ mE ≤ 158 ∨ mTg w b0 = 53 ∧ mTg w 158 = 4 ∨ mTg w b0 = 54 ∧ mTg w 158 = 11) (h1 : 2 < mLn w b0) : mX d 167 987 [.ref a0, .ref a1, .ref a2, .int x3, mJ, mJ, mJ, mJ, mJ] [.ref b0] w = mX d 167 992 [.ref a0, .ref a1, .ref a2, .int x3, mJ, mJ, mJ, mJ, mJ] [.ref b0] (wR w b0 2 (some 158)) := by
  refine Eq.trans (X_dup f_167_987 rfl) ?_
  refine Eq.trans (X_iconst f_167_988 kc_i_2) ?_
  refine Eq.trans (X_st f_167_989 rfl rfl) ?_
  refine Eq.trans (X_aast f_167_991 h0 kn_2 kl_2 h1) ?_
  exact mX_maskK lm_167_992 rfl
theorem b_167_992 {d : Nat} {a0 : Nat} {a1 : Nat} {a2 : Nat} {x3 : Int32} {b0 : Nat} {w : MW} : mX d 167 992 [.ref a0, .ref a1, .ref a2, .int x3, mJ, mJ, mJ, mJ, mJ] [.ref b0] w = mX d 167 997 [.ref a0, .ref a1, .ref a2, .int x3, .ref b0, .int (nI 0), mJ, mJ, mJ] [] w := by
  refine Eq.trans (X_astore (L' := [.ref a0, .ref a1, .ref a2, .int x3, .ref b0, mJ, mJ, mJ, mJ]) f_167_992 (Nat.le_of_ble_eq_true rfl) rfl) ?_
  refine Eq.trans (X_iconst f_167_994 kc_i_0) ?_
  refine Eq.trans (X_istore (L' := [.ref a0, .ref a1, .ref a2, .int x3, .ref b0, .int (nI 0), mJ, mJ, mJ]) f_167_995 (Nat.le_of_ble_eq_true rfl) rfl) ?_
  exact mX_maskK lm_167_997 rfl
theorem b_167_997 {d : Nat} {a0 : Nat} {a1 : Nat} {a2 : Nat} {x3 : Int32} {a4 : Nat} {x5 : Int32} {w : MW} (h0 : mTg w a2 = 10) (h1 : mR w a2 17 = some (gR w a2 17)) (h2 : 50 ≤ mTg w (gR w a2 17) ∧ mTg w (gR w a2 17) < 55) : mX d 167 997 [.ref a0, .ref a1, .ref a2, .int x3, .ref a4, .int x5, mJ, mJ, mJ] [] w = (if (nI (mLn w (gR w a2 17))) ≤ x5 then mX d 167 1183 [mJ, mJ, .ref a2, mJ, mJ, mJ, mJ, mJ, mJ] [] w else mX d 167 1007 [.ref a0, .ref a1, .ref a2, .int x3, .ref a4, .int x5, mJ, mJ, mJ] [] w) := by
  refine Eq.trans (X_st f_167_997 rfl rfl) ?_
  refine Eq.trans (X_st f_167_999 rfl rfl) ?_
  refine Eq.trans (X_getR f_167_1000 h0 rfl h1) ?_
  refine Eq.trans (X_st f_167_1003 rfl (if_pos h2)) ?_
  refine Eq.trans (X_br f_167_1004 rfl rfl) ?_
  exact mIte_eq (mX_maskK lm_167_1183 rfl) (mX_maskK lm_167_1007 rfl)
theorem b_167_1007 {d : Nat} {a0 : Nat} {a1 : Nat} {a2 : Nat} {x3 : Int32} {a4 : Nat} {x5 : Int32} {w : MW} : mX (d + 1) 167 1007 [.ref a0, .ref a1, .ref a2, .int x3, .ref a4, .int x5, mJ, mJ, mJ] [] w = mThen (mK d 164 [.ref a0, .int ((nI 6) + (x5 - x5 / (nI 8) * (nI 8)))] w) (fun v w9 => mX (d + 1) 167 1019 [.ref a0, .ref a1, .ref a2, .int x3, .ref a4, .int x5, mJ, mJ, mJ] (v.toList ++ []) w9) := by
  refine Eq.trans (X_st f_167_1007 rfl rfl) ?_
  refine Eq.trans (X_bipush f_167_1008 kc_b_6) ?_
  refine Eq.trans (X_st f_167_1010 rfl rfl) ?_
  refine Eq.trans (X_bipush f_167_1012 kc_b_8) ?_
  refine Eq.trans (X_irem f_167_1014 kz_8) ?_
  refine Eq.trans (X_st f_167_1015 rfl rfl) ?_
  refine Eq.trans (X_call f_167_1016 (by decide) rfl rfl rfl rfl rfl rfl (Nat.le_of_ble_eq_true rfl) (Nat.le_of_ble_eq_true rfl) rfl (Nat.le_of_ble_eq_true rfl)) ?_
  exact mThen_eq fun v w9 => mX_maskK lm_167_1019 rfl
theorem b_167_1019 {d : Nat} {a0 : Nat} {a1 : Nat} {a2 : Nat} {x3 : Int32} {a4 : Nat} {x5 : Int32} {y0 : Int32} {w : MW} : mX d 167 1019 [.ref a0, .ref a1, .ref a2, .int x3, .ref a4, .int x5, mJ, mJ, mJ] [.int y0] w = mX d 167 1033 [.ref a0, .ref a1, .ref a2, .int x3, .ref a4, .int x5, .int (y0 >>> (((nI 2) + (x5 / (nI 8))) &&& 31)), mJ, mJ] [.ref (mSz w)] (wN w 50 6 6) := by
  refine Eq.trans (X_iconst f_167_1019 kc_i_2) ?_
  refine Eq.trans (X_st f_167_1020 rfl rfl) ?_
  refine Eq.trans (X_bipush f_167_1022 kc_b_8) ?_
  refine Eq.trans (X_idiv f_167_1024 kz_8) ?_
  refine Eq.trans (X_st f_167_1025 rfl rfl) ?_
  refine Eq.trans (X_st f_167_1026 rfl rfl) ?_
  refine Eq.trans (X_istore (L' := [.ref a0, .ref a1, .ref a2, .int x3, .ref a4, .int x5, .int (y0 >>> (((nI 2) + (x5 / (nI 8))) &&& 31)), mJ, mJ]) f_167_1027 (Nat.le_of_ble_eq_true rfl) rfl) ?_
  refine Eq.trans (X_bipush f_167_1029 kc_b_6) ?_
  refine Eq.trans (X_newa f_167_1031 kn_6 kl_6 (Nat.le_of_ble_eq_true rfl)) ?_
  exact mX_maskK lm_167_1033 rfl
theorem b_167_1033 {d : Nat} {a0 : Nat} {a1 : Nat} {a2 : Nat} {x3 : Int32} {a4 : Nat} {x5 : Int32} {x6 : Int32} {b0 : Nat} {w : MW} : mX (d + 1) 167 1033 [.ref a0, .ref a1, .ref a2, .int x3, .ref a4, .int x5, .int x6, mJ, mJ] [.ref b0] w = mThen (mK d 163 [.int x6, .int (nI 3)] w) (fun v w9 => mX (d + 1) 167 1041 [.ref a0, .ref a1, .ref a2, .int x3, .ref a4, .int x5, .int x6, mJ, mJ] (v.toList ++ [.int (nI 0), .ref b0, .ref b0]) w9) := by
  refine Eq.trans (X_dup f_167_1033 rfl) ?_
  refine Eq.trans (X_iconst f_167_1034 kc_i_0) ?_
  refine Eq.trans (X_st f_167_1035 rfl rfl) ?_
  refine Eq.trans (X_iconst f_167_1037 kc_i_3) ?_
  refine Eq.trans (X_call f_167_1038 (by decide) rfl rfl rfl rfl rfl rfl (Nat.le_of_ble_eq_true rfl) (Nat.le_of_ble_eq_true rfl) rfl (Nat.le_of_ble_eq_true rfl)) ?_
  exact mThen_eq fun v w9 => mX_maskK lm_167_1041 rfl
theorem b_167_1041 {d : Nat} {a0 : Nat} {a1 : Nat} {a2 : Nat} {x3 : Int32} {a4 : Nat} {x5 : Int32} {x6 : Int32} {y0 : Int32} {y1 : Nat} {b2 : Nat} {b3 : Nat} {w : MW} (h0 : mTg w b2 = 50) (h1 : mE ≤ b2) (h2 : y1 < 2147483648) (h3 : y1 < mLn w b2) : mX d 167 1041 [.ref a0, .ref a1, .ref a2, .int x3, .ref a4, .int x5, .int x6, mJ, mJ] [.int y0, .int (nI y1), .ref b2, .ref b3] w = mX d 167 1042 [.ref a0, .ref a1, .ref a2, .int x3, .ref a4, .int x5, .int x6, mJ, mJ] [.ref b3] (wI w b2 y1 y0) := by
  refine Eq.trans (X_iast f_167_1041 h0 h1 (jnn h2) (jcl h2) h3) ?_
  exact mX_maskK lm_167_1042 rfl
theorem b_167_1042 {d : Nat} {a0 : Nat} {a1 : Nat} {a2 : Nat} {x3 : Int32} {a4 : Nat} {x5 : Int32} {x6 : Int32} {b0 : Nat} {w : MW} : mX (d + 1) 167 1042 [.ref a0, .ref a1, .ref a2, .int x3, .ref a4, .int x5, .int x6, mJ, mJ] [.ref b0] w = mThen (mK d 163 [.int (x6 >>> ((nI 2) &&& 31)), .int x3] w) (fun v w9 => mX (d + 1) 167 1052 [.ref a0, .ref a1, .ref a2, .int x3, .ref a4, .int x5, .int x6, mJ, mJ] (v.toList ++ [.int (nI 1), .ref b0, .ref b0]) w9) := by
  refine Eq.trans (X_dup f_167_1042 rfl) ?_
  refine Eq.trans (X_iconst f_167_1043 kc_i_1) ?_
  refine Eq.trans (X_st f_167_1044 rfl rfl) ?_
  refine Eq.trans (X_iconst f_167_1046 kc_i_2) ?_
  refine Eq.trans (X_st f_167_1047 rfl rfl) ?_
  refine Eq.trans (X_st f_167_1048 rfl rfl) ?_
  refine Eq.trans (X_call f_167_1049 (by decide) rfl rfl rfl rfl rfl rfl (Nat.le_of_ble_eq_true rfl) (Nat.le_of_ble_eq_true rfl) rfl (Nat.le_of_ble_eq_true rfl)) ?_
  exact mThen_eq fun v w9 => mX_maskK lm_167_1052 rfl
theorem b_167_1052 {d : Nat} {a0 : Nat} {a1 : Nat} {a2 : Nat} {x3 : Int32} {a4 : Nat} {x5 : Int32} {x6 : Int32} {y0 : Int32} {y1 : Nat} {b2 : Nat} {b3 : Nat} {w : MW} (h0 : mTg w b2 = 50) (h1 : mE ≤ b2) (h2 : y1 < 2147483648) (h3 : y1 < mLn w b2) : mX d 167 1052 [.ref a0, .ref a1, .ref a2, .int x3, .ref a4, .int x5, .int x6, mJ, mJ] [.int y0, .int (nI y1), .ref b2, .ref b3] w = mX d 167 1053 [.ref a0, .ref a1, .ref a2, .int x3, .ref a4, .int x5, .int x6, mJ, mJ] [.ref b3] (wI w b2 y1 y0) := by
  refine Eq.trans (X_iast f_167_1052 h0 h1 (jnn h2) (jcl h2) h3) ?_
  exact mX_maskK lm_167_1053 rfl
theorem b_167_1053 {d : Nat} {a0 : Nat} {a1 : Nat} {a2 : Nat} {x3 : Int32} {a4 : Nat} {x5 : Int32} {x6 : Int32} {b0 : Nat} {w : MW} : mX (d + 1) 167 1053 [.ref a0, .ref a1, .ref a2, .int x3, .ref a4, .int x5, .int x6, mJ, mJ] [.ref b0] w = mThen (mK d 163 [.int (x6 >>> ((nI 4) &&& 31)), .int (nI 9)] w) (fun v w9 => mX (d + 1) 167 1064 [.ref a0, .ref a1, .ref a2, .int x3, .ref a4, .int x5, .int x6, mJ, mJ] (v.toList ++ [.int (nI 2), .ref b0, .ref b0]) w9) := by
  refine Eq.trans (X_dup f_167_1053 rfl) ?_
  refine Eq.trans (X_iconst f_167_1054 kc_i_2) ?_
  refine Eq.trans (X_st f_167_1055 rfl rfl) ?_
  refine Eq.trans (X_iconst f_167_1057 kc_i_4) ?_
  refine Eq.trans (X_st f_167_1058 rfl rfl) ?_
  refine Eq.trans (X_bipush f_167_1059 kc_b_9) ?_
  refine Eq.trans (X_call f_167_1061 (by decide) rfl rfl rfl rfl rfl rfl (Nat.le_of_ble_eq_true rfl) (Nat.le_of_ble_eq_true rfl) rfl (Nat.le_of_ble_eq_true rfl)) ?_
  exact mThen_eq fun v w9 => mX_maskK lm_167_1064 rfl
theorem b_167_1064 {d : Nat} {a0 : Nat} {a1 : Nat} {a2 : Nat} {x3 : Int32} {a4 : Nat} {x5 : Int32} {x6 : Int32} {y0 : Int32} {y1 : Nat} {b2 : Nat} {b3 : Nat} {w : MW} (h0 : mTg w b2 = 50) (h1 : mE ≤ b2) (h2 : y1 < 2147483648) (h3 : y1 < mLn w b2) : mX d 167 1064 [.ref a0, .ref a1, .ref a2, .int x3, .ref a4, .int x5, .int x6, mJ, mJ] [.int y0, .int (nI y1), .ref b2, .ref b3] w = mX d 167 1065 [.ref a0, .ref a1, .ref a2, .int x3, .ref a4, .int x5, .int x6, mJ, mJ] [.ref b3] (wI w b2 y1 y0) := by
  refine Eq.trans (X_iast f_167_1064 h0 h1 (jnn h2) (jcl h2) h3) ?_
  exact mX_maskK lm_167_1065 rfl
theorem b_167_1065 {d : Nat} {a0 : Nat} {a1 : Nat} {a2 : Nat} {x3 : Int32} {a4 : Nat} {x5 : Int32} {x6 : Int32} {b0 : Nat} {w : MW} : mX (d + 1) 167 1065 [.ref a0, .ref a1, .ref a2, .int x3, .ref a4, .int x5, .int x6, mJ, mJ] [.ref b0] w = mThen (mK d 163 [.int (x6 >>> ((nI 3) &&& 31)), .int (nI 7)] w) (fun v w9 => mX (d + 1) 167 1076 [.ref a0, .ref a1, .ref a2, .int x3, .ref a4, .int x5, .int x6, mJ, mJ] (v.toList ++ [.int (nI 3), .ref b0, .ref b0]) w9) := by
  refine Eq.trans (X_dup f_167_1065 rfl) ?_
  refine Eq.trans (X_iconst f_167_1066 kc_i_3) ?_
  refine Eq.trans (X_st f_167_1067 rfl rfl) ?_
  refine Eq.trans (X_iconst f_167_1069 kc_i_3) ?_
  refine Eq.trans (X_st f_167_1070 rfl rfl) ?_
  refine Eq.trans (X_bipush f_167_1071 kc_b_7) ?_
  refine Eq.trans (X_call f_167_1073 (by decide) rfl rfl rfl rfl rfl rfl (Nat.le_of_ble_eq_true rfl) (Nat.le_of_ble_eq_true rfl) rfl (Nat.le_of_ble_eq_true rfl)) ?_
  exact mThen_eq fun v w9 => mX_maskK lm_167_1076 rfl
theorem b_167_1076 {d : Nat} {a0 : Nat} {a1 : Nat} {a2 : Nat} {x3 : Int32} {a4 : Nat} {x5 : Int32} {x6 : Int32} {y0 : Int32} {y1 : Nat} {b2 : Nat} {b3 : Nat} {w : MW} (h0 : mTg w b2 = 50) (h1 : mE ≤ b2) (h2 : y1 < 2147483648) (h3 : y1 < mLn w b2) : mX d 167 1076 [.ref a0, .ref a1, .ref a2, .int x3, .ref a4, .int x5, .int x6, mJ, mJ] [.int y0, .int (nI y1), .ref b2, .ref b3] w = mX d 167 1077 [.ref a0, .ref a1, .ref a2, .int x3, .ref a4, .int x5, .int x6, mJ, mJ] [.ref b3] (wI w b2 y1 y0) := by
  refine Eq.trans (X_iast f_167_1076 h0 h1 (jnn h2) (jcl h2) h3) ?_
  exact mX_maskK lm_167_1077 rfl
theorem b_167_1077 {d : Nat} {a0 : Nat} {a1 : Nat} {a2 : Nat} {x3 : Int32} {a4 : Nat} {x5 : Int32} {x6 : Int32} {b0 : Nat} {w : MW} : mX (d + 1) 167 1077 [.ref a0, .ref a1, .ref a2, .int x3, .ref a4, .int x5, .int x6, mJ, mJ] [.ref b0] w = mThen (mK d 163 [.int (x6 >>> ((nI 5) &&& 31)), .int x3] w) (fun v w9 => mX (d + 1) 167 1087 [.ref a0, .ref a1, .ref a2, .int x3, .ref a4, .int x5, .int x6, mJ, mJ] (v.toList ++ [.int (nI 4), .ref b0, .ref b0]) w9) := by
  refine Eq.trans (X_dup f_167_1077 rfl) ?_
  refine Eq.trans (X_iconst f_167_1078 kc_i_4) ?_
  refine Eq.trans (X_st f_167_1079 rfl rfl) ?_
  refine Eq.trans (X_iconst f_167_1081 kc_i_5) ?_
  refine Eq.trans (X_st f_167_1082 rfl rfl) ?_
  refine Eq.trans (X_st f_167_1083 rfl rfl) ?_
  refine Eq.trans (X_call f_167_1084 (by decide) rfl rfl rfl rfl rfl rfl (Nat.le_of_ble_eq_true rfl) (Nat.le_of_ble_eq_true rfl) rfl (Nat.le_of_ble_eq_true rfl)) ?_
  exact mThen_eq fun v w9 => mX_maskK lm_167_1087 rfl
theorem b_167_1087 {d : Nat} {a0 : Nat} {a1 : Nat} {a2 : Nat} {x3 : Int32} {a4 : Nat} {x5 : Int32} {x6 : Int32} {y0 : Int32} {y1 : Nat} {b2 : Nat} {b3 : Nat} {w : MW} (h0 : mTg w b2 = 50) (h1 : mE ≤ b2) (h2 : y1 < 2147483648) (h3 : y1 < mLn w b2) : mX d 167 1087 [.ref a0, .ref a1, .ref a2, .int x3, .ref a4, .int x5, .int x6, mJ, mJ] [.int y0, .int (nI y1), .ref b2, .ref b3] w = mX d 167 1088 [.ref a0, .ref a1, .ref a2, .int x3, .ref a4, .int x5, .int x6, mJ, mJ] [.ref b3] (wI w b2 y1 y0) := by
  refine Eq.trans (X_iast f_167_1087 h0 h1 (jnn h2) (jcl h2) h3) ?_
  exact mX_maskK lm_167_1088 rfl
theorem b_167_1088 {d : Nat} {a0 : Nat} {a1 : Nat} {a2 : Nat} {x3 : Int32} {a4 : Nat} {x5 : Int32} {x6 : Int32} {b0 : Nat} {w : MW} (h0 : mTg w a2 = 10) (h1 : mR w a2 10 = some (gR w a2 10)) (h2 : 50 ≤ mTg w (gR w a2 10) ∧ mTg w (gR w a2 10) < 55) : mX (d + 1) 167 1088 [.ref a0, .ref a1, .ref a2, .int x3, .ref a4, .int x5, .int x6, mJ, mJ] [.ref b0] w = mThen (mK d 163 [.int (x6 >>> ((nI 6) &&& 31)), .int (nI (mLn w (gR w a2 10)))] w) (fun v w9 => mX (d + 1) 167 1103 [.ref a0, .ref a1, .ref a2, .int x3, .ref a4, .int x5, .int x6, mJ, mJ] (v.toList ++ [.int (nI 5), .ref b0, .ref b0]) w9) := by
  refine Eq.trans (X_dup f_167_1088 rfl) ?_
  refine Eq.trans (X_iconst f_167_1089 kc_i_5) ?_
  refine Eq.trans (X_st f_167_1090 rfl rfl) ?_
  refine Eq.trans (X_bipush f_167_1092 kc_b_6) ?_
  refine Eq.trans (X_st f_167_1094 rfl rfl) ?_
  refine Eq.trans (X_st f_167_1095 rfl rfl) ?_
  refine Eq.trans (X_getR f_167_1096 h0 rfl h1) ?_
  refine Eq.trans (X_st f_167_1099 rfl (if_pos h2)) ?_
  refine Eq.trans (X_call f_167_1100 (by decide) rfl rfl rfl rfl rfl rfl (Nat.le_of_ble_eq_true rfl) (Nat.le_of_ble_eq_true rfl) rfl (Nat.le_of_ble_eq_true rfl)) ?_
  exact mThen_eq fun v w9 => mX_maskK lm_167_1103 rfl
theorem b_167_1103 {d : Nat} {a0 : Nat} {a1 : Nat} {a2 : Nat} {x3 : Int32} {a4 : Nat} {x5 : Int32} {x6 : Int32} {y0 : Int32} {y1 : Nat} {b2 : Nat} {b3 : Nat} {w : MW} (h0 : mTg w b2 = 50) (h1 : mE ≤ b2) (h2 : y1 < 2147483648) (h3 : y1 < mLn w b2) : mX d 167 1103 [.ref a0, .ref a1, .ref a2, .int x3, .ref a4, .int x5, .int x6, mJ, mJ] [.int y0, .int (nI y1), .ref b2, .ref b3] w = mX d 167 1104 [.ref a0, .ref a1, .ref a2, .int x3, .ref a4, .int x5, .int x6, mJ, mJ] [.ref b3] (wI w b2 y1 y0) := by
  refine Eq.trans (X_iast f_167_1103 h0 h1 (jnn h2) (jcl h2) h3) ?_
  exact mX_maskK lm_167_1104 rfl
theorem b_167_1104 {d : Nat} {a0 : Nat} {a1 : Nat} {a2 : Nat} {x3 : Int32} {a4 : Nat} {x5 : Int32} {x6 : Int32} {b0 : Nat} {w : MW} : mX (d + 1) 167 1104 [.ref a0, .ref a1, .ref a2, .int x3, .ref a4, .int x5, .int x6, mJ, mJ] [.ref b0] w = mThen (mK d 163 [.int (x6 >>> ((nI 8) &&& 31)), .int (nI 2)] w) (fun v w9 => mX (d + 1) 167 1115 [.ref a0, .ref a1, .ref a2, .int x3, .ref a4, .int x5, mJ, .ref b0, mJ] (v.toList ++ []) w9) := by
  refine Eq.trans (X_astore (L' := [.ref a0, .ref a1, .ref a2, .int x3, .ref a4, .int x5, .int x6, .ref b0, mJ]) f_167_1104 (Nat.le_of_ble_eq_true rfl) rfl) ?_
  refine Eq.trans (X_st f_167_1106 rfl rfl) ?_
  refine Eq.trans (X_bipush f_167_1108 kc_b_8) ?_
  refine Eq.trans (X_st f_167_1110 rfl rfl) ?_
  refine Eq.trans (X_iconst f_167_1111 kc_i_2) ?_
  refine Eq.trans (X_call f_167_1112 (by decide) rfl rfl rfl rfl rfl rfl (Nat.le_of_ble_eq_true rfl) (Nat.le_of_ble_eq_true rfl) rfl (Nat.le_of_ble_eq_true rfl)) ?_
  exact mThen_eq fun v w9 => mX_maskK lm_167_1115 rfl
theorem b_167_1115 {d : Nat} {a0 : Nat} {a1 : Nat} {a2 : Nat} {x3 : Int32} {a4 : Nat} {x5 : Int32} {a7 : Nat} {y0 : Int32} {w : MW} : mX d 167 1115 [.ref a0, .ref a1, .ref a2, .int x3, .ref a4, .int x5, mJ, .ref a7, mJ] [.int y0] w = (if ¬ y0 = nI 0 then mX d 167 1126 [.ref a0, .ref a1, .ref a2, .int x3, .ref a4, .int x5, mJ, .ref a7, mJ] [] w else mX d 167 1118 [.ref a0, .ref a1, .ref a2, .int x3, .ref a4, .int x5, mJ, .ref a7, mJ] [] w) := by
  refine Eq.trans (X_br f_167_1115 rfl rfl) ?_
  exact mIte_eq (mX_maskK lm_167_1126 rfl) (mX_maskK lm_167_1118 rfl)
theorem b_167_1118 {d : Nat} {a0 : Nat} {a1 : Nat} {a2 : Nat} {x3 : Int32} {a4 : Nat} {x5 : Int32} {a7 : Nat} {w : MW} (h0 : mTg w a7 = 50) (h1 : 1 < mLn w a7) (h2 : mE ≤ a7) (h3 : 4 < mLn w a7) : mX d 167 1118 [.ref a0, .ref a1, .ref a2, .int x3, .ref a4, .int x5, mJ, .ref a7, mJ] [] w = mX d 167 1126 [.ref a0, .ref a1, .ref a2, .int x3, .ref a4, .int x5, mJ, .ref a7, mJ] [] (wI w a7 4 (mI w a7 1)) := by
  refine Eq.trans (X_st f_167_1118 rfl rfl) ?_
  refine Eq.trans (X_iconst f_167_1120 kc_i_4) ?_
  refine Eq.trans (X_st f_167_1121 rfl rfl) ?_
  refine Eq.trans (X_iconst f_167_1123 kc_i_1) ?_
  refine Eq.trans (X_iald f_167_1124 h0 kn_1 kl_1 h1) ?_
  refine Eq.trans (X_iast f_167_1125 h0 h2 kn_4 kl_4 h3) ?_
  exact mX_maskK lm_167_1126 rfl
theorem b_167_1126 {d : Nat} {a0 : Nat} {a1 : Nat} {a2 : Nat} {x3 : Int32} {a4 : Nat} {x5 : Nat} {a7 : Nat} {w : MW} (h0 : mTg w a2 = 10) (h1 : mR w a2 17 = some (gR w a2 17)) (h2 : mTg w (gR w a2 17) = 52 ∧ mTg w a7 = 50 ∧ mE ≤ a7 ∨ mTg w (gR w a2 17) = 53 ∧ mTg w a7 = 4 ∨ mTg w (gR w a2 17) = 54 ∧ mTg w a7 = 11) (h3 : x5 < 2147483648) (h4 : x5 < mLn w (gR w a2 17)) : mX d 167 1126 [.ref a0, .ref a1, .ref a2, .int x3, .ref a4, .int (nI x5), mJ, .ref a7, mJ] [] w = mX d 167 1135 [.ref a0, .ref a1, .ref a2, .int x3, .ref a4, .int (nI x5), mJ, .ref a7, mJ] [] (wR w (gR w a2 17) x5 (some a7)) := by
  refine Eq.trans (X_st f_167_1126 rfl rfl) ?_
  refine Eq.trans (X_getR f_167_1127 h0 rfl h1) ?_
  refine Eq.trans (X_st f_167_1130 rfl rfl) ?_
  refine Eq.trans (X_st f_167_1132 rfl rfl) ?_
  refine Eq.trans (X_aast f_167_1134 h2 (jnn h3) (jcl h3) h4) ?_
  exact mX_maskK lm_167_1135 rfl
theorem b_167_1135 {d : Nat} {a0 : Nat} {a1 : Nat} {a2 : Nat} {x3 : Int32} {a4 : Nat} {x5 : Int32} {a7 : Nat} {z0 : Nat} {w : MW} (h0 : mTg w a7 = 50) (h1 : 0 < mLn w a7) (h2 : 52 ≤ mTg w a4 ∧ mTg w a4 < 55) (h3 : (mI w a7 0) = nI z0) (h4 : z0 < 2147483648) (h5 : z0 < mLn w a4) (h6 : mR w a4 z0 = some (gR w a4 z0)) (h7 : mTg w a1 = 12) : mX (d + 1) 167 1135 [.ref a0, .ref a1, .ref a2, .int x3, .ref a4, .int x5, mJ, .ref a7, mJ] [] w = mThen (mK d 159 [.ref a1, .ref (gR w a4 z0)] w) (fun v w9 => mX (d + 1) 167 1146 [.ref a0, .ref a1, .ref a2, .int x3, .ref a4, .int x5, mJ, .ref a7, mJ] (v.toList ++ []) w9) := by
  refine Eq.trans (X_st f_167_1135 rfl rfl) ?_
  refine Eq.trans (X_st f_167_1136 rfl rfl) ?_
  refine Eq.trans (X_st f_167_1138 rfl rfl) ?_
  refine Eq.trans (X_iconst f_167_1140 kc_i_0) ?_
  refine Eq.trans (X_iald f_167_1141 h0 kn_0 kl_0 h1) ?_
  refine Eq.trans (X_aald f_167_1142 h2 (jnnE h3 h4) (jclE h3 h4) h5 h6) ?_
  refine Eq.trans (X_call f_167_1143 (by decide) rfl rfl rfl rfl rfl rfl (Nat.le_of_ble_eq_true rfl) (Nat.le_of_ble_eq_true rfl) (decide_eq_true h7) (Nat.le_of_ble_eq_true rfl)) ?_
  exact mThen_eq fun v w9 => mX_maskK lm_167_1146 rfl
theorem b_167_1146 {d : Nat} {a0 : Nat} {a1 : Nat} {a2 : Nat} {x3 : Int32} {a4 : Nat} {x5 : Int32} {a7 : Nat} {b0 : Nat} {w : MW} (h0 : mTg w b0 = 12) : mX (d + 1) 167 1146 [.ref a0, .ref a1, .ref a2, .int x3, .ref a4, .int x5, mJ, .ref a7, mJ] [.ref b0] w = mThen (mK d 159 [.ref b0, .ref 70] w) (fun v w9 => mX (d + 1) 167 1151 [.ref a0, .ref a1, .ref a2, .int x3, .ref a4, .int x5, mJ, .ref a7, mJ] (v.toList ++ []) w9) := by
  refine Eq.trans (X_st f_167_1146 rfl rfl) ?_
  refine Eq.trans (X_call f_167_1148 (by decide) rfl rfl rfl rfl rfl rfl (Nat.le_of_ble_eq_true rfl) (Nat.le_of_ble_eq_true rfl) (decide_eq_true h0) (Nat.le_of_ble_eq_true rfl)) ?_
  exact mThen_eq fun v w9 => mX_maskK lm_167_1151 rfl
theorem b_167_1151 {d : Nat} {a0 : Nat} {a1 : Nat} {a2 : Nat} {x3 : Int32} {a4 : Nat} {x5 : Int32} {a7 : Nat} {b0 : Nat} {w : MW} (h0 : mTg w a7 = 50) (h1 : 1 < mLn w a7) (h2 : mTg w b0 = 12) : mX (d + 1) 167 1151 [.ref a0, .ref a1, .ref a2, .int x3, .ref a4, .int x5, mJ, .ref a7, mJ] [.ref b0] w = mThen (mK d 160 [.ref b0, .int (mI w a7 1)] w) (fun v w9 => mX (d + 1) 167 1158 [.ref a0, .ref a1, .ref a2, .int x3, .ref a4, .int x5, mJ, .ref a7, mJ] (v.toList ++ []) w9) := by
  refine Eq.trans (X_st f_167_1151 rfl rfl) ?_
  refine Eq.trans (X_iconst f_167_1153 kc_i_1) ?_
  refine Eq.trans (X_iald f_167_1154 h0 kn_1 kl_1 h1) ?_
  refine Eq.trans (X_call f_167_1155 (by decide) rfl rfl rfl rfl rfl rfl (Nat.le_of_ble_eq_true rfl) (Nat.le_of_ble_eq_true rfl) (decide_eq_true h2) (Nat.le_of_ble_eq_true rfl)) ?_
  exact mThen_eq fun v w9 => mX_maskK lm_167_1158 rfl
theorem b_167_1158 {d : Nat} {a0 : Nat} {a1 : Nat} {a2 : Nat} {x3 : Int32} {a4 : Nat} {x5 : Int32} {a7 : Nat} {b0 : Nat} {w : MW} (h0 : mTg w b0 = 12) : mX (d + 1) 167 1158 [.ref a0, .ref a1, .ref a2, .int x3, .ref a4, .int x5, mJ, .ref a7, mJ] [.ref b0] w = mThen (mK d 159 [.ref b0, .ref 160] w) (fun v w9 => mX (d + 1) 167 1163 [.ref a0, .ref a1, .ref a2, .int x3, .ref a4, .int x5, mJ, .ref a7, mJ] (v.toList ++ []) w9) := by
  refine Eq.trans (X_st f_167_1158 rfl rfl) ?_
  refine Eq.trans (X_call f_167_1160 (by decide) rfl rfl rfl rfl rfl rfl (Nat.le_of_ble_eq_true rfl) (Nat.le_of_ble_eq_true rfl) (decide_eq_true h0) (Nat.le_of_ble_eq_true rfl)) ?_
  exact mThen_eq fun v w9 => mX_maskK lm_167_1163 rfl
theorem b_167_1163 {d : Nat} {a0 : Nat} {a1 : Nat} {a2 : Nat} {x3 : Int32} {a4 : Nat} {x5 : Int32} {a7 : Nat} {b0 : Nat} {w : MW} : mX (d + 1) 167 1163 [.ref a0, .ref a1, .ref a2, .int x3, .ref a4, .int x5, mJ, .ref a7, mJ] [.ref b0] w = mThen (mK d 166 [.ref a7] w) (fun v w9 => mX (d + 1) 167 1168 [.ref a0, .ref a1, .ref a2, .int x3, .ref a4, .int x5, mJ, mJ, mJ] (v.toList ++ [.ref b0]) w9) := by
  refine Eq.trans (X_st f_167_1163 rfl rfl) ?_
  refine Eq.trans (X_call f_167_1165 (by decide) rfl rfl rfl rfl rfl rfl (Nat.le_of_ble_eq_true rfl) (Nat.le_of_ble_eq_true rfl) rfl (Nat.le_of_ble_eq_true rfl)) ?_
  exact mThen_eq fun v w9 => mX_maskK lm_167_1168 rfl
theorem b_167_1168 {d : Nat} {a0 : Nat} {a1 : Nat} {a2 : Nat} {x3 : Int32} {a4 : Nat} {x5 : Int32} {b0 : Nat} {b1 : Nat} {w : MW} (h0 : mTg w b1 = 12) : mX (d + 1) 167 1168 [.ref a0, .ref a1, .ref a2, .int x3, .ref a4, .int x5, mJ, mJ, mJ] [.ref b0, .ref b1] w = mThen (mK d 159 [.ref b1, .ref b0] w) (fun v w9 => mX (d + 1) 167 1171 [.ref a0, .ref a1, .ref a2, .int x3, .ref a4, .int x5, mJ, mJ, mJ] (v.toList ++ []) w9) := by
  refine Eq.trans (X_call f_167_1168 (by decide) rfl rfl rfl rfl rfl rfl (Nat.le_of_ble_eq_true rfl) (Nat.le_of_ble_eq_true rfl) (decide_eq_true h0) (Nat.le_of_ble_eq_true rfl)) ?_
  exact mThen_eq fun v w9 => mX_maskK lm_167_1171 rfl
theorem b_167_1171 {d : Nat} {a0 : Nat} {a1 : Nat} {a2 : Nat} {x3 : Int32} {a4 : Nat} {x5 : Int32} {b0 : Nat} {w : MW} (h0 : mTg w b0 = 12) : mX (d + 1) 167 1171 [.ref a0, .ref a1, .ref a2, .int x3, .ref a4, .int x5, mJ, mJ, mJ] [.ref b0] w = mThen (mK d 159 [.ref b0, .ref 118] w) (fun v w9 => mX (d + 1) 167 1176 [.ref a0, .ref a1, .ref a2, .int x3, .ref a4, .int x5, mJ, mJ, mJ] (v.toList ++ []) w9) := by
  refine Eq.trans (X_st f_167_1171 rfl rfl) ?_
  refine Eq.trans (X_call f_167_1173 (by decide) rfl rfl rfl rfl rfl rfl (Nat.le_of_ble_eq_true rfl) (Nat.le_of_ble_eq_true rfl) (decide_eq_true h0) (Nat.le_of_ble_eq_true rfl)) ?_
  exact mThen_eq fun v w9 => mX_maskK lm_167_1176 rfl
theorem b_167_1176 {d : Nat} {a0 : Nat} {a1 : Nat} {a2 : Nat} {x3 : Int32} {a4 : Nat} {x5 : Int32} {b0 : Nat} {w : MW} : mX d 167 1176 [.ref a0, .ref a1, .ref a2, .int x3, .ref a4, .int x5, mJ, mJ, mJ] [.ref b0] w = mX d 167 997 [.ref a0, .ref a1, .ref a2, .int x3, .ref a4, .int (x5 + (nI 1)), mJ, mJ, mJ] [] w := by
  refine Eq.trans (X_pop f_167_1176 rfl) ?_
  refine Eq.trans (X_iinc f_167_1177 kc_i_1 rfl rfl) ?_
  refine Eq.trans (X_st f_167_1180 rfl rfl) ?_
  exact mX_maskK lm_167_997 rfl
theorem b_167_1183 {d : Nat} {a2 : Nat} {w : MW} (h0 : mTg w a2 = 10) (h1 : mE ≤ a2) : mX d 167 1183 [mJ, mJ, .ref a2, mJ, mJ, mJ, mJ, mJ, mJ] [] w = mX d 167 1188 [mJ, mJ, .ref a2, mJ, mJ, mJ, mJ, mJ, mJ] [] (wI w a2 1 (nI 0)) := by
  refine Eq.trans (X_st f_167_1183 rfl rfl) ?_
  refine Eq.trans (X_iconst f_167_1184 kc_i_0) ?_
  refine Eq.trans (X_putI f_167_1185 h0 h1 rfl rfl) ?_
  exact mX_maskK lm_167_1188 rfl
theorem b_167_1188 {d : Nat} {a2 : Nat} {w : MW} : mX d 167 1188 [mJ, mJ, .ref a2, mJ, mJ, mJ, mJ, mJ, mJ] [] w = some (.inl (some (.ref a2)), w) := by
  refine Eq.trans (X_st f_167_1188 rfl rfl) ?_
  exact X_ret f_167_1189 rfl rfl
