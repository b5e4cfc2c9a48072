/-! ===== BLOCKS: by program (wip/p26/blk.py) ===== -/
/-! BeeTurnpikeLaw act (LBeeTurnpike;LBeeTurnpikeLaw$Sim;I)Z -/
theorem f_168_0 : mFetch 168 0 = some (.iload_n 2, 1, []) := by decide +kernel
theorem f_168_1 : mFetch 168 1 = some (.iconst 3, 1, []) := by decide +kernel
theorem f_168_2 : mFetch 168 2 = some (.ishr, 1, []) := by decide +kernel
theorem f_168_3 : mFetch 168 3 = some (.aload_n 1, 1, []) := by decide +kernel
theorem f_168_4 : mFetch 168 4 = some (.getfield 141, 3, [10, 12, 0, 1347]) := by decide +kernel
theorem f_168_7 : mFetch 168 7 = some (.arraylength, 1, []) := by decide +kernel
theorem f_168_8 : mFetch 168 8 = some (.invokestatic 99, 3, [163, 2, 0, 0, 1395, 1396]) := by decide +kernel
theorem f_168_11 : mFetch 168 11 = some (.istore_n 3, 1, []) := by decide +kernel
theorem f_168_12 : mFetch 168 12 = some (.iload_n 2, 1, []) := by decide +kernel
theorem f_168_13 : mFetch 168 13 = some (.bipush 10, 2, []) := by decide +kernel
theorem f_168_15 : mFetch 168 15 = some (.invokestatic 99, 3, [163, 2, 0, 0, 1395, 1396]) := by decide +kernel
theorem f_168_18 : mFetch 168 18 = some (.tableswitch 298 0 3 #[30, 91, 156, 234], 30, [316, 48, 109, 174, 252]) := by decide +kernel
theorem f_168_48 : mFetch 168 48 = some (.aload_n 1, 1, []) := by decide +kernel
theorem f_168_49 : mFetch 168 49 = some (.invokevirtual 193, 3, [135, 1, 2, 10, 1654, 865, 866]) := by decide +kernel
theorem f_168_52 : mFetch 168 52 = some (.istore 4, 2, []) := by decide +kernel
theorem f_168_54 : mFetch 168 54 = some (.iload 4, 2, []) := by decide +kernel
theorem f_168_56 : mFetch 168 56 = some (.ifCond .eq 7, 3, [63]) := by decide +kernel
theorem f_168_59 : mFetch 168 59 = some (.aload_n 1, 1, []) := by decide +kernel
theorem f_168_60 : mFetch 168 60 = some (.invokevirtual 197, 3, [136, 1, 2, 10, 1655, 869, 870]) := by decide +kernel
theorem f_168_63 : mFetch 168 63 = some (.aload_n 0, 1, []) := by decide +kernel
theorem f_168_64 : mFetch 168 64 = some (.invokevirtual 199, 3, [107, 1, 2, 9, 1656, 1657, 1658]) := by decide +kernel
theorem f_168_67 : mFetch 168 67 = some (.istore 5, 2, []) := by decide +kernel
theorem f_168_69 : mFetch 168 69 = some (.iload 4, 2, []) := by decide +kernel
theorem f_168_71 : mFetch 168 71 = some (.ifCond .eq 23, 3, [94]) := by decide +kernel
theorem f_168_74 : mFetch 168 74 = some (.iload 5, 2, []) := by decide +kernel
theorem f_168_76 : mFetch 168 76 = some (.aload_n 1, 1, []) := by decide +kernel
theorem f_168_77 : mFetch 168 77 = some (.getfield 141, 3, [10, 12, 0, 1347]) := by decide +kernel
theorem f_168_80 : mFetch 168 80 = some (.aload_n 1, 1, []) := by decide +kernel
theorem f_168_81 : mFetch 168 81 = some (.getfield 201, 3, [10, 4, 0, 1333]) := by decide +kernel
theorem f_168_84 : mFetch 168 84 = some (.aaload, 1, []) := by decide +kernel
theorem f_168_85 : mFetch 168 85 = some (.iconst 1, 1, []) := by decide +kernel
theorem f_168_86 : mFetch 168 86 = some (.iaload, 1, []) := by decide +kernel
theorem f_168_87 : mFetch 168 87 = some (.if_icmp .ne 7, 3, [94]) := by decide +kernel
theorem f_168_90 : mFetch 168 90 = some (.iconst 1, 1, []) := by decide +kernel
theorem f_168_91 : mFetch 168 91 = some (.goto 4, 3, [95]) := by decide +kernel
theorem f_168_94 : mFetch 168 94 = some (.iconst 0, 1, []) := by decide +kernel
theorem f_168_95 : mFetch 168 95 = some (.ireturn, 1, [2]) := by decide +kernel
theorem f_168_98 : mFetch 168 98 = some (.iload 4, 2, []) := by decide +kernel
theorem f_168_100 : mFetch 168 100 = some (.ifCond .ne 7, 3, [107]) := by decide +kernel
theorem f_168_103 : mFetch 168 103 = some (.iconst 1, 1, []) := by decide +kernel
theorem f_168_104 : mFetch 168 104 = some (.goto 4, 3, [108]) := by decide +kernel
theorem f_168_107 : mFetch 168 107 = some (.iconst 0, 1, []) := by decide +kernel
theorem f_168_108 : mFetch 168 108 = some (.ireturn, 1, [2]) := by decide +kernel
theorem f_168_109 : mFetch 168 109 = some (.aload_n 1, 1, []) := by decide +kernel
theorem f_168_110 : mFetch 168 110 = some (.invokevirtual 206, 3, [137, 1, 2, 10, 1662, 873, 874]) := by decide +kernel
theorem f_168_113 : mFetch 168 113 = some (.istore 4, 2, []) := by decide +kernel
theorem f_168_115 : mFetch 168 115 = some (.iload 4, 2, []) := by decide +kernel
theorem f_168_117 : mFetch 168 117 = some (.ifCond .eq 7, 3, [124]) := by decide +kernel
theorem f_168_120 : mFetch 168 120 = some (.aload_n 1, 1, []) := by decide +kernel
theorem f_168_121 : mFetch 168 121 = some (.invokevirtual 209, 3, [138, 1, 2, 10, 1663, 877, 878]) := by decide +kernel
theorem f_168_124 : mFetch 168 124 = some (.aload_n 0, 1, []) := by decide +kernel
theorem f_168_125 : mFetch 168 125 = some (.invokevirtual 211, 3, [108, 1, 2, 9, 1664, 1665, 1666]) := by decide +kernel
theorem f_168_128 : mFetch 168 128 = some (.istore 5, 2, []) := by decide +kernel
theorem f_168_130 : mFetch 168 130 = some (.iload 4, 2, []) := by decide +kernel
theorem f_168_132 : mFetch 168 132 = some (.ifCond .eq 27, 3, [159]) := by decide +kernel
theorem f_168_135 : mFetch 168 135 = some (.iload 5, 2, []) := by decide +kernel
theorem f_168_137 : mFetch 168 137 = some (.aload_n 1, 1, []) := by decide +kernel
theorem f_168_138 : mFetch 168 138 = some (.getfield 189, 3, [10, 1, 0, 1330]) := by decide +kernel
theorem f_168_141 : mFetch 168 141 = some (.ifCond .ge 7, 3, [148]) := by decide +kernel
theorem f_168_144 : mFetch 168 144 = some (.iconst (-1), 1, []) := by decide +kernel
theorem f_168_145 : mFetch 168 145 = some (.goto 7, 3, [152]) := by decide +kernel
theorem f_168_148 : mFetch 168 148 = some (.aload_n 1, 1, []) := by decide +kernel
theorem f_168_149 : mFetch 168 149 = some (.getfield 201, 3, [10, 4, 0, 1333]) := by decide +kernel
theorem f_168_152 : mFetch 168 152 = some (.if_icmp .ne 7, 3, [159]) := by decide +kernel
theorem f_168_155 : mFetch 168 155 = some (.iconst 1, 1, []) := by decide +kernel
theorem f_168_156 : mFetch 168 156 = some (.goto 4, 3, [160]) := by decide +kernel
theorem f_168_159 : mFetch 168 159 = some (.iconst 0, 1, []) := by decide +kernel
theorem f_168_160 : mFetch 168 160 = some (.ireturn, 1, [2]) := by decide +kernel
theorem f_168_163 : mFetch 168 163 = some (.iload 4, 2, []) := by decide +kernel
theorem f_168_165 : mFetch 168 165 = some (.ifCond .ne 7, 3, [172]) := by decide +kernel
theorem f_168_168 : mFetch 168 168 = some (.iconst 1, 1, []) := by decide +kernel
theorem f_168_169 : mFetch 168 169 = some (.goto 4, 3, [173]) := by decide +kernel
theorem f_168_172 : mFetch 168 172 = some (.iconst 0, 1, []) := by decide +kernel
theorem f_168_173 : mFetch 168 173 = some (.ireturn, 1, [2]) := by decide +kernel
theorem f_168_174 : mFetch 168 174 = some (.iload_n 2, 1, []) := by decide +kernel
theorem f_168_175 : mFetch 168 175 = some (.iconst 5, 1, []) := by decide +kernel
theorem f_168_176 : mFetch 168 176 = some (.ishr, 1, []) := by decide +kernel
theorem f_168_177 : mFetch 168 177 = some (.aload_n 1, 1, []) := by decide +kernel
theorem f_168_178 : mFetch 168 178 = some (.getfield 103, 3, [10, 8, 0, 1339]) := by decide +kernel
theorem f_168_181 : mFetch 168 181 = some (.arraylength, 1, []) := by decide +kernel
theorem f_168_182 : mFetch 168 182 = some (.invokestatic 99, 3, [163, 2, 0, 0, 1395, 1396]) := by decide +kernel
theorem f_168_185 : mFetch 168 185 = some (.istore 4, 2, []) := by decide +kernel
theorem f_168_187 : mFetch 168 187 = some (.iconst 1, 1, []) := by decide +kernel
theorem f_168_188 : mFetch 168 188 = some (.iload_n 2, 1, []) := by decide +kernel
theorem f_168_189 : mFetch 168 189 = some (.iconst 4, 1, []) := by decide +kernel
theorem f_168_190 : mFetch 168 190 = some (.ishr, 1, []) := by decide +kernel
theorem f_168_191 : mFetch 168 191 = some (.bipush 9, 2, []) := by decide +kernel
theorem f_168_193 : mFetch 168 193 = some (.invokestatic 99, 3, [163, 2, 0, 0, 1395, 1396]) := by decide +kernel
theorem f_168_196 : mFetch 168 196 = some (.iadd, 1, []) := by decide +kernel
theorem f_168_197 : mFetch 168 197 = some (.istore 5, 2, []) := by decide +kernel
theorem f_168_199 : mFetch 168 199 = some (.aload_n 1, 1, []) := by decide +kernel
theorem f_168_200 : mFetch 168 200 = some (.getfield 144, 3, [10, 13, 0, 1349]) := by decide +kernel
theorem f_168_203 : mFetch 168 203 = some (.iload_n 3, 1, []) := by decide +kernel
theorem f_168_204 : mFetch 168 204 = some (.aaload, 1, []) := by decide +kernel
theorem f_168_205 : mFetch 168 205 = some (.iload 4, 2, []) := by decide +kernel
theorem f_168_207 : mFetch 168 207 = some (.bipush 20, 2, []) := by decide +kernel
theorem f_168_209 : mFetch 168 209 = some (.aload_n 1, 1, []) := by decide +kernel
theorem f_168_210 : mFetch 168 210 = some (.getfield 144, 3, [10, 13, 0, 1349]) := by decide +kernel
theorem f_168_213 : mFetch 168 213 = some (.iload_n 3, 1, []) := by decide +kernel
theorem f_168_214 : mFetch 168 214 = some (.aaload, 1, []) := by decide +kernel
theorem f_168_215 : mFetch 168 215 = some (.iload 4, 2, []) := by decide +kernel
theorem f_168_217 : mFetch 168 217 = some (.iaload, 1, []) := by decide +kernel
theorem f_168_218 : mFetch 168 218 = some (.iload 5, 2, []) := by decide +kernel
theorem f_168_220 : mFetch 168 220 = some (.iadd, 1, []) := by decide +kernel
theorem f_168_221 : mFetch 168 221 = some (.invokestatic 214, 3, [183, 2, 0, 0, 1671, 639]) := by decide +kernel
theorem f_168_224 : mFetch 168 224 = some (.iastore, 1, []) := by decide +kernel
theorem f_168_225 : mFetch 168 225 = some (.aload_n 0, 1, []) := by decide +kernel
theorem f_168_226 : mFetch 168 226 = some (.iload_n 3, 1, []) := by decide +kernel
theorem f_168_227 : mFetch 168 227 = some (.iload 4, 2, []) := by decide +kernel
theorem f_168_229 : mFetch 168 229 = some (.iload 5, 2, []) := by decide +kernel
theorem f_168_231 : mFetch 168 231 = some (.invokevirtual 219, 3, [109, 4, 2, 9, 1672, 1673, 1674]) := by decide +kernel
theorem f_168_234 : mFetch 168 234 = some (.aload_n 1, 1, []) := by decide +kernel
theorem f_168_235 : mFetch 168 235 = some (.getfield 144, 3, [10, 13, 0, 1349]) := by decide +kernel
theorem f_168_238 : mFetch 168 238 = some (.iload_n 3, 1, []) := by decide +kernel
theorem f_168_239 : mFetch 168 239 = some (.aaload, 1, []) := by decide +kernel
theorem f_168_240 : mFetch 168 240 = some (.iload 4, 2, []) := by decide +kernel
theorem f_168_242 : mFetch 168 242 = some (.iaload, 1, []) := by decide +kernel
theorem f_168_243 : mFetch 168 243 = some (.if_icmp .ne 7, 3, [250]) := by decide +kernel
theorem f_168_246 : mFetch 168 246 = some (.iconst 1, 1, []) := by decide +kernel
theorem f_168_247 : mFetch 168 247 = some (.goto 4, 3, [251]) := by decide +kernel
theorem f_168_250 : mFetch 168 250 = some (.iconst 0, 1, []) := by decide +kernel
theorem f_168_251 : mFetch 168 251 = some (.ireturn, 1, [2]) := by decide +kernel
theorem f_168_252 : mFetch 168 252 = some (.iconst 1, 1, []) := by decide +kernel
theorem f_168_253 : mFetch 168 253 = some (.iload_n 2, 1, []) := by decide +kernel
theorem f_168_254 : mFetch 168 254 = some (.iconst 4, 1, []) := by decide +kernel
theorem f_168_255 : mFetch 168 255 = some (.ishr, 1, []) := by decide +kernel
theorem f_168_256 : mFetch 168 256 = some (.iload_n 2, 1, []) := by decide +kernel
theorem f_168_257 : mFetch 168 257 = some (.bipush 6, 2, []) := by decide +kernel
theorem f_168_259 : mFetch 168 259 = some (.ishr, 1, []) := by decide +kernel
theorem f_168_260 : mFetch 168 260 = some (.iconst 3, 1, []) := by decide +kernel
theorem f_168_261 : mFetch 168 261 = some (.invokestatic 99, 3, [163, 2, 0, 0, 1395, 1396]) := by decide +kernel
theorem f_168_264 : mFetch 168 264 = some (.ifCond .ne 8, 3, [272]) := by decide +kernel
theorem f_168_267 : mFetch 168 267 = some (.bipush 20, 2, []) := by decide +kernel
theorem f_168_269 : mFetch 168 269 = some (.goto 4, 3, [273]) := by decide +kernel
theorem f_168_272 : mFetch 168 272 = some (.iconst 3, 1, []) := by decide +kernel
theorem f_168_273 : mFetch 168 273 = some (.invokestatic 99, 3, [163, 2, 0, 0, 1395, 1396]) := by decide +kernel
theorem f_168_276 : mFetch 168 276 = some (.iadd, 1, []) := by decide +kernel
theorem f_168_277 : mFetch 168 277 = some (.istore 4, 2, []) := by decide +kernel
theorem f_168_279 : mFetch 168 279 = some (.aload_n 1, 1, []) := by decide +kernel
theorem f_168_280 : mFetch 168 280 = some (.getfield 141, 3, [10, 12, 0, 1347]) := by decide +kernel
theorem f_168_283 : mFetch 168 283 = some (.iload_n 3, 1, []) := by decide +kernel
theorem f_168_284 : mFetch 168 284 = some (.aaload, 1, []) := by decide +kernel
theorem f_168_285 : mFetch 168 285 = some (.iconst 1, 1, []) := by decide +kernel
theorem f_168_286 : mFetch 168 286 = some (.dup2, 1, []) := by decide +kernel
theorem f_168_287 : mFetch 168 287 = some (.iaload, 1, []) := by decide +kernel
theorem f_168_288 : mFetch 168 288 = some (.iload 4, 2, []) := by decide +kernel
theorem f_168_290 : mFetch 168 290 = some (.iadd, 1, []) := by decide +kernel
theorem f_168_291 : mFetch 168 291 = some (.iastore, 1, []) := by decide +kernel
theorem f_168_292 : mFetch 168 292 = some (.aload_n 0, 1, []) := by decide +kernel
theorem f_168_293 : mFetch 168 293 = some (.iload_n 3, 1, []) := by decide +kernel
theorem f_168_294 : mFetch 168 294 = some (.iload 4, 2, []) := by decide +kernel
theorem f_168_296 : mFetch 168 296 = some (.invokevirtual 223, 3, [110, 3, 2, 9, 1678, 1679, 1680]) := by decide +kernel
theorem f_168_299 : mFetch 168 299 = some (.aload_n 1, 1, []) := by decide +kernel
theorem f_168_300 : mFetch 168 300 = some (.getfield 141, 3, [10, 12, 0, 1347]) := by decide +kernel
theorem f_168_303 : mFetch 168 303 = some (.iload_n 3, 1, []) := by decide +kernel
theorem f_168_304 : mFetch 168 304 = some (.aaload, 1, []) := by decide +kernel
theorem f_168_305 : mFetch 168 305 = some (.iconst 1, 1, []) := by decide +kernel
theorem f_168_306 : mFetch 168 306 = some (.iaload, 1, []) := by decide +kernel
theorem f_168_307 : mFetch 168 307 = some (.if_icmp .ne 7, 3, [314]) := by decide +kernel
theorem f_168_310 : mFetch 168 310 = some (.iconst 1, 1, []) := by decide +kernel
theorem f_168_311 : mFetch 168 311 = some (.goto 4, 3, [315]) := by decide +kernel
theorem f_168_314 : mFetch 168 314 = some (.iconst 0, 1, []) := by decide +kernel
theorem f_168_315 : mFetch 168 315 = some (.ireturn, 1, [2]) := by decide +kernel
theorem f_168_316 : mFetch 168 316 = some (.iconst 1, 1, []) := by decide +kernel
theorem f_168_317 : mFetch 168 317 = some (.iload_n 2, 1, []) := by decide +kernel
theorem f_168_318 : mFetch 168 318 = some (.iconst 4, 1, []) := by decide +kernel
theorem f_168_319 : mFetch 168 319 = some (.ishr, 1, []) := by decide +kernel
theorem f_168_320 : mFetch 168 320 = some (.iload_n 2, 1, []) := by decide +kernel
theorem f_168_321 : mFetch 168 321 = some (.bipush 6, 2, []) := by decide +kernel
theorem f_168_323 : mFetch 168 323 = some (.ishr, 1, []) := by decide +kernel
theorem f_168_324 : mFetch 168 324 = some (.bipush 8, 2, []) := by decide +kernel
theorem f_168_326 : mFetch 168 326 = some (.invokestatic 99, 3, [163, 2, 0, 0, 1395, 1396]) := by decide +kernel
theorem f_168_329 : mFetch 168 329 = some (.ifCond .ne 8, 3, [337]) := by decide +kernel
theorem f_168_332 : mFetch 168 332 = some (.bipush 60, 2, []) := by decide +kernel
theorem f_168_334 : mFetch 168 334 = some (.goto 4, 3, [338]) := by decide +kernel
theorem f_168_337 : mFetch 168 337 = some (.iconst 3, 1, []) := by decide +kernel
theorem f_168_338 : mFetch 168 338 = some (.invokestatic 99, 3, [163, 2, 0, 0, 1395, 1396]) := by decide +kernel
theorem f_168_341 : mFetch 168 341 = some (.iadd, 1, []) := by decide +kernel
theorem f_168_342 : mFetch 168 342 = some (.istore 4, 2, []) := by decide +kernel
theorem f_168_344 : mFetch 168 344 = some (.aload_n 0, 1, []) := by decide +kernel
theorem f_168_345 : mFetch 168 345 = some (.iload 4, 2, []) := by decide +kernel
theorem f_168_347 : mFetch 168 347 = some (.invokevirtual 226, 3, [111, 2, 2, 9, 642, 643, 644]) := by decide +kernel
theorem f_168_350 : mFetch 168 350 = some (.aload_n 1, 1, []) := by decide +kernel
theorem f_168_351 : mFetch 168 351 = some (.iload 4, 2, []) := by decide +kernel
theorem f_168_353 : mFetch 168 353 = some (.invokevirtual 229, 3, [145, 2, 2, 10, 822, 823, 824]) := by decide +kernel
theorem f_168_356 : mFetch 168 356 = some (.if_icmp .ne 7, 3, [363]) := by decide +kernel
theorem f_168_359 : mFetch 168 359 = some (.iconst 1, 1, []) := by decide +kernel
theorem f_168_360 : mFetch 168 360 = some (.goto 4, 3, [364]) := by decide +kernel
theorem f_168_363 : mFetch 168 363 = some (.iconst 0, 1, []) := by decide +kernel
theorem f_168_364 : mFetch 168 364 = some (.ireturn, 1, [2]) := by decide +kernel
theorem b_168_0 {d : Nat} {a0 : Nat} {a1 : Nat} {x2 : Int32} {w : MW} (h0 : mTg w a1 = 10) (h1 : mR w a1 12 = some (gR w a1 12)) (h2 : 50 ≤ mTg w (gR w a1 12) ∧ mTg w (gR w a1 12) < 55) : mX (d + 1) 168 0 [.ref a0, .ref a1, .int x2, mJ, mJ, mJ] [] w = mThenH (d + 1) 168 8 11 0 [.ref a0, .ref a1, .int x2, mJ, mJ, mJ] [] (mK d 163 [.int (x2 >>> ((nI 3) &&& 31)), .int (nI (mLn w (gR w a1 12)))] w) := by
  refine Eq.trans (X_st f_168_0 rfl rfl) ?_
  refine Eq.trans (X_iconst f_168_1 kc_i_3) ?_
  refine Eq.trans (X_st f_168_2 rfl rfl) ?_
  refine Eq.trans (X_st f_168_3 rfl rfl) ?_
  refine Eq.trans (X_getR f_168_4 h0 rfl h1) ?_
  refine Eq.trans (X_st f_168_7 rfl (if_pos h2)) ?_
  exact X_callH f_168_8 rfl (Nat.le_of_ble_eq_true rfl) (Nat.le_of_ble_eq_true rfl) rfl (Nat.le_of_ble_eq_true rfl)
theorem e_168 {d : Nat} {a0 : Nat} {a1 : Nat} {x2 : Int32} {w : MW} : mK d 168 [.ref a0, .ref a1, .int x2] w = mX d 168 0 [.ref a0, .ref a1, .int x2, mJ, mJ, mJ] [] w := rfl
theorem b_168_11 {d : Nat} {a0 : Nat} {a1 : Nat} {x2 : Int32} {y0 : Int32} {w : MW} : mX (d + 1) 168 11 [.ref a0, .ref a1, .int x2, mJ, mJ, mJ] [.int y0] w = mThenH (d + 1) 168 15 18 0 [.ref a0, .ref a1, .int x2, .int y0, mJ, mJ] [] (mK d 163 [.int x2, .int (nI 10)] w) := by
  refine Eq.trans (X_istore_n (L' := [.ref a0, .ref a1, .int x2, .int y0, mJ, mJ]) f_168_11 (Nat.le_of_ble_eq_true rfl) rfl) ?_
  refine Eq.trans (X_st f_168_12 rfl rfl) ?_
  refine Eq.trans (X_bipush f_168_13 kc_b_10) ?_
  exact X_callH f_168_15 rfl (Nat.le_of_ble_eq_true rfl) (Nat.le_of_ble_eq_true rfl) rfl (Nat.le_of_ble_eq_true rfl)
theorem s_168_18_0 {d : Nat} {a0 : Nat} {a1 : Nat} {x2 : Int32} {x3 : Int32} {y0 : Int32} {w : MW} (h0 : y0 = (nI 0)) : mX d 168 18 [.ref a0, .ref a1, .int x2, .int x3, mJ, mJ] [.int y0] w = mX d 168 48 [.ref a0, .ref a1, mJ, mJ, mJ, mJ] [] w := by
  refine Eq.trans (X_sw f_168_18 rfl (congrArg Value.int h0) rfl) ?_
  exact mX_mask rfl
theorem s_168_18_1 {d : Nat} {a0 : Nat} {a1 : Nat} {x2 : Int32} {x3 : Int32} {y0 : Int32} {w : MW} (h0 : y0 = (nI 1)) : mX d 168 18 [.ref a0, .ref a1, .int x2, .int x3, mJ, mJ] [.int y0] w = mX d 168 109 [.ref a0, .ref a1, mJ, mJ, mJ, mJ] [] w := by
  refine Eq.trans (X_sw f_168_18 rfl (congrArg Value.int h0) rfl) ?_
  exact mX_mask rfl
theorem s_168_18_2 {d : Nat} {a0 : Nat} {a1 : Nat} {x2 : Int32} {x3 : Int32} {y0 : Int32} {w : MW} (h0 : y0 = (nI 2)) : mX d 168 18 [.ref a0, .ref a1, .int x2, .int x3, mJ, mJ] [.int y0] w = mX d 168 174 [.ref a0, .ref a1, .int x2, .int x3, mJ, mJ] [] w := by
  refine Eq.trans (X_sw f_168_18 rfl (congrArg Value.int h0) rfl) ?_
  exact mX_mask rfl
theorem s_168_18_3 {d : Nat} {a0 : Nat} {a1 : Nat} {x2 : Int32} {x3 : Int32} {y0 : Int32} {w : MW} (h0 : y0 = (nI 3)) : mX d 168 18 [.ref a0, .ref a1, .int x2, .int x3, mJ, mJ] [.int y0] w = mX d 168 252 [.ref a0, .ref a1, .int x2, .int x3, mJ, mJ] [] w := by
  refine Eq.trans (X_sw f_168_18 rfl (congrArg Value.int h0) rfl) ?_
  exact mX_mask rfl
theorem s_168_18_d {d : Nat} {a0 : Nat} {a1 : Nat} {x2 : Int32} {x3 : Int32} {y0 : Int32} {w : MW} (h0 : (y0).toInt < 0 ∨ 3 < (y0).toInt) : mX d 168 18 [.ref a0, .ref a1, .int x2, .int x3, mJ, mJ] [.int y0] w = mX d 168 316 [.ref a0, .ref a1, .int x2, mJ, mJ, mJ] [] w := by
  refine Eq.trans (X_swD f_168_18 h0 rfl) ?_
  exact mX_mask rfl
theorem b_168_48 {d : Nat} {a0 : Nat} {a1 : Nat} {w : MW} (h0 : mTg w a1 = 10) : mX (d + 1) 168 48 [.ref a0, .ref a1, mJ, mJ, mJ, mJ] [] w = mThenH (d + 1) 168 49 52 2 [.ref a0, .ref a1, mJ, mJ, mJ, mJ] [] (mK d 135 [.ref a1] w) := by
  refine Eq.trans (X_st f_168_48 rfl rfl) ?_
  exact X_callH f_168_49 rfl (Nat.le_of_ble_eq_true rfl) (Nat.le_of_ble_eq_true rfl) (decide_eq_true h0) (Nat.le_of_ble_eq_true rfl)
theorem b_168_52 {d : Nat} {a0 : Nat} {a1 : Nat} {y0 : Int32} {w : MW} : mX d 168 52 [.ref a0, .ref a1, mJ, mJ, mJ, mJ] [.int y0] w = (if y0 = nI 0 then mX d 168 63 [.ref a0, .ref a1, mJ, mJ, .int y0, mJ] [] w else mX d 168 59 [.ref a0, .ref a1, mJ, mJ, .int y0, mJ] [] w) := by
  refine Eq.trans (X_istore (L' := [.ref a0, .ref a1, mJ, mJ, .int y0, mJ]) f_168_52 (Nat.le_of_ble_eq_true rfl) rfl) ?_
  refine Eq.trans (X_st f_168_54 rfl rfl) ?_
  refine Eq.trans (X_br f_168_56 rfl rfl) ?_
  exact mIte_eq (mX_mask rfl) (mX_mask rfl)
theorem b_168_59 {d : Nat} {a0 : Nat} {a1 : Nat} {x4 : Int32} {w : MW} (h0 : mTg w a1 = 10) : mX (d + 1) 168 59 [.ref a0, .ref a1, mJ, mJ, .int x4, mJ] [] w = mThenH (d + 1) 168 60 63 2 [.ref a0, .ref a1, mJ, mJ, .int x4, mJ] [] (mK d 136 [.ref a1] w) := by
  refine Eq.trans (X_st f_168_59 rfl rfl) ?_
  exact X_callH f_168_60 rfl (Nat.le_of_ble_eq_true rfl) (Nat.le_of_ble_eq_true rfl) (decide_eq_true h0) (Nat.le_of_ble_eq_true rfl)
theorem b_168_63 {d : Nat} {a0 : Nat} {a1 : Nat} {x4 : Int32} {w : MW} (h0 : mTg w a0 = 9) : mX (d + 1) 168 63 [.ref a0, .ref a1, mJ, mJ, .int x4, mJ] [] w = mThenH (d + 1) 168 64 67 2 [.ref a0, .ref a1, mJ, mJ, .int x4, mJ] [] (mK d 107 [.ref a0] w) := by
  refine Eq.trans (X_st f_168_63 rfl rfl) ?_
  exact X_callH f_168_64 rfl (Nat.le_of_ble_eq_true rfl) (Nat.le_of_ble_eq_true rfl) (decide_eq_true h0) (Nat.le_of_ble_eq_true rfl)
theorem b_168_67 {d : Nat} {a1 : Nat} {x4 : Int32} {y0 : Int32} {w : MW} : mX d 168 67 [mJ, .ref a1, mJ, mJ, .int x4, mJ] [.int y0] w = (if x4 = nI 0 then mX d 168 94 [mJ, mJ, mJ, mJ, .int x4, mJ] [] w else mX d 168 74 [mJ, .ref a1, mJ, mJ, .int x4, .int y0] [] w) := by
  refine Eq.trans (X_istore (L' := [mJ, .ref a1, mJ, mJ, .int x4, .int y0]) f_168_67 (Nat.le_of_ble_eq_true rfl) rfl) ?_
  refine Eq.trans (X_st f_168_69 rfl rfl) ?_
  refine Eq.trans (X_br f_168_71 rfl rfl) ?_
  exact mIte_eq (mX_mask rfl) (mX_mask rfl)
theorem b_168_74 {d : Nat} {a1 : Nat} {x4 : Int32} {x5 : Int32} {z0 : Nat} {w : MW} (h0 : mTg w a1 = 10) (h1 : mR w a1 12 = some (gR w a1 12)) (h2 : 52 ≤ mTg w (gR w a1 12) ∧ mTg w (gR w a1 12) < 55) (h3 : (mI w a1 4) = nI z0) (h4 : z0 < 2147483648) (h5 : z0 < mLn w (gR w a1 12)) (h6 : mR w (gR w a1 12) z0 = some (gR w (gR w a1 12) z0)) (h7 : mTg w (gR w (gR w a1 12) z0) = 50) (h8 : 1 < mLn w (gR w (gR w a1 12) z0)) : mX d 168 74 [mJ, .ref a1, mJ, mJ, .int x4, .int x5] [] w = (if ¬ x5 = (mI w (gR w (gR w a1 12) z0) 1) then mX d 168 94 [mJ, mJ, mJ, mJ, .int x4, mJ] [] w else mX d 168 90 [mJ, mJ, mJ, mJ, .int x4, mJ] [] w) := by
  refine Eq.trans (X_st f_168_74 rfl rfl) ?_
  refine Eq.trans (X_st f_168_76 rfl rfl) ?_
  refine Eq.trans (X_getR f_168_77 h0 rfl h1) ?_
  refine Eq.trans (X_st f_168_80 rfl rfl) ?_
  refine Eq.trans (X_getI f_168_81 h0 rfl) ?_
  refine Eq.trans (X_aald f_168_84 h2 (jnnE h3 h4) (jclE h3 h4) h5 h6) ?_
  refine Eq.trans (X_iconst f_168_85 kc_i_1) ?_
  refine Eq.trans (X_iald f_168_86 h7 kn_1 kl_1 h8) ?_
  refine Eq.trans (X_br f_168_87 rfl rfl) ?_
  exact mIte_eq (mX_mask rfl) (mX_mask rfl)
theorem b_168_90 {d : Nat} {x4 : Int32} {w : MW} : mX d 168 90 [mJ, mJ, mJ, mJ, .int x4, mJ] [] w = mX d 168 95 [mJ, mJ, mJ, mJ, mJ, mJ] [.int (nI 1)] w := by
  refine Eq.trans (X_iconst f_168_90 kc_i_1) ?_
  refine Eq.trans (X_st f_168_91 rfl rfl) ?_
  exact mX_mask rfl
theorem b_168_94 {d : Nat} {x4 : Int32} {w : MW} : mX d 168 94 [mJ, mJ, mJ, mJ, .int x4, mJ] [] w = mX d 168 95 [mJ, mJ, mJ, mJ, mJ, mJ] [.int (nI 0)] w := by
  refine Eq.trans (X_iconst f_168_94 kc_i_0) ?_
  exact mX_mask rfl
theorem b_168_95 {d : Nat} {y0 : Int32} {w : MW} (h0 : mRk 2 y0 = true) : mX d 168 95 [mJ, mJ, mJ, mJ, mJ, mJ] [.int y0] w = some (.inl (some (.int y0)), w) := by
  exact X_ireturn f_168_95 h0
theorem b_168_98 {d : Nat} {x4 : Int32} {w : MW} : mX d 168 98 [mJ, mJ, mJ, mJ, .int x4, mJ] [] w = (if ¬ x4 = nI 0 then mX d 168 107 [mJ, mJ, mJ, mJ, mJ, mJ] [] w else mX d 168 103 [mJ, mJ, mJ, mJ, mJ, mJ] [] w) := by
  refine Eq.trans (X_st f_168_98 rfl rfl) ?_
  refine Eq.trans (X_br f_168_100 rfl rfl) ?_
  exact mIte_eq (mX_mask rfl) (mX_mask rfl)
theorem b_168_103 {d : Nat} {w : MW} : mX d 168 103 [mJ, mJ, mJ, mJ, mJ, mJ] [] w = mX d 168 108 [mJ, mJ, mJ, mJ, mJ, mJ] [.int (nI 1)] w := by
  refine Eq.trans (X_iconst f_168_103 kc_i_1) ?_
  refine Eq.trans (X_st f_168_104 rfl rfl) ?_
  exact mX_mask rfl
theorem b_168_107 {d : Nat} {w : MW} : mX d 168 107 [mJ, mJ, mJ, mJ, mJ, mJ] [] w = mX d 168 108 [mJ, mJ, mJ, mJ, mJ, mJ] [.int (nI 0)] w := by
  refine Eq.trans (X_iconst f_168_107 kc_i_0) ?_
  exact mX_mask rfl
theorem b_168_108 {d : Nat} {y0 : Int32} {w : MW} (h0 : mRk 2 y0 = true) : mX d 168 108 [mJ, mJ, mJ, mJ, mJ, mJ] [.int y0] w = some (.inl (some (.int y0)), w) := by
  exact X_ireturn f_168_108 h0
theorem b_168_109 {d : Nat} {a0 : Nat} {a1 : Nat} {w : MW} (h0 : mTg w a1 = 10) : mX (d + 1) 168 109 [.ref a0, .ref a1, mJ, mJ, mJ, mJ] [] w = mThenH (d + 1) 168 110 113 2 [.ref a0, .ref a1, mJ, mJ, mJ, mJ] [] (mK d 137 [.ref a1] w) := by
  refine Eq.trans (X_st f_168_109 rfl rfl) ?_
  exact X_callH f_168_110 rfl (Nat.le_of_ble_eq_true rfl) (Nat.le_of_ble_eq_true rfl) (decide_eq_true h0) (Nat.le_of_ble_eq_true rfl)
theorem b_168_113 {d : Nat} {a0 : Nat} {a1 : Nat} {y0 : Int32} {w : MW} : mX d 168 113 [.ref a0, .ref a1, mJ, mJ, mJ, mJ] [.int y0] w = (if y0 = nI 0 then mX d 168 124 [.ref a0, .ref a1, mJ, mJ, .int y0, mJ] [] w else mX d 168 120 [.ref a0, .ref a1, mJ, mJ, .int y0, mJ] [] w) := by
  refine Eq.trans (X_istore (L' := [.ref a0, .ref a1, mJ, mJ, .int y0, mJ]) f_168_113 (Nat.le_of_ble_eq_true rfl) rfl) ?_
  refine Eq.trans (X_st f_168_115 rfl rfl) ?_
  refine Eq.trans (X_br f_168_117 rfl rfl) ?_
  exact mIte_eq (mX_mask rfl) (mX_mask rfl)
theorem b_168_120 {d : Nat} {a0 : Nat} {a1 : Nat} {x4 : Int32} {w : MW} (h0 : mTg w a1 = 10) : mX (d + 1) 168 120 [.ref a0, .ref a1, mJ, mJ, .int x4, mJ] [] w = mThenH (d + 1) 168 121 124 2 [.ref a0, .ref a1, mJ, mJ, .int x4, mJ] [] (mK d 138 [.ref a1] w) := by
  refine Eq.trans (X_st f_168_120 rfl rfl) ?_
  exact X_callH f_168_121 rfl (Nat.le_of_ble_eq_true rfl) (Nat.le_of_ble_eq_true rfl) (decide_eq_true h0) (Nat.le_of_ble_eq_true rfl)
theorem b_168_124 {d : Nat} {a0 : Nat} {a1 : Nat} {x4 : Int32} {w : MW} (h0 : mTg w a0 = 9) : mX (d + 1) 168 124 [.ref a0, .ref a1, mJ, mJ, .int x4, mJ] [] w = mThenH (d + 1) 168 125 128 2 [.ref a0, .ref a1, mJ, mJ, .int x4, mJ] [] (mK d 108 [.ref a0] w) := by
  refine Eq.trans (X_st f_168_124 rfl rfl) ?_
  exact X_callH f_168_125 rfl (Nat.le_of_ble_eq_true rfl) (Nat.le_of_ble_eq_true rfl) (decide_eq_true h0) (Nat.le_of_ble_eq_true rfl)
theorem b_168_128 {d : Nat} {a1 : Nat} {x4 : Int32} {y0 : Int32} {w : MW} : mX d 168 128 [mJ, .ref a1, mJ, mJ, .int x4, mJ] [.int y0] w = (if x4 = nI 0 then mX d 168 159 [mJ, mJ, mJ, mJ, .int x4, mJ] [] w else mX d 168 135 [mJ, .ref a1, mJ, mJ, .int x4, .int y0] [] w) := by
  refine Eq.trans (X_istore (L' := [mJ, .ref a1, mJ, mJ, .int x4, .int y0]) f_168_128 (Nat.le_of_ble_eq_true rfl) rfl) ?_
  refine Eq.trans (X_st f_168_130 rfl rfl) ?_
  refine Eq.trans (X_br f_168_132 rfl rfl) ?_
  exact mIte_eq (mX_mask rfl) (mX_mask rfl)
theorem b_168_135 {d : Nat} {a1 : Nat} {x4 : Int32} {x5 : Int32} {w : MW} (h0 : mTg w a1 = 10) : mX d 168 135 [mJ, .ref a1, mJ, mJ, .int x4, .int x5] [] w = (if nI 0 ≤ (mI w a1 1) then mX d 168 148 [mJ, .ref a1, mJ, mJ, .int x4, mJ] [.int x5] w else mX d 168 144 [mJ, mJ, mJ, mJ, .int x4, mJ] [.int x5] w) := by
  refine Eq.trans (X_st f_168_135 rfl rfl) ?_
  refine Eq.trans (X_st f_168_137 rfl rfl) ?_
  refine Eq.trans (X_getI f_168_138 h0 rfl) ?_
  refine Eq.trans (X_br f_168_141 rfl rfl) ?_
  exact mIte_eq (mX_mask rfl) (mX_mask rfl)
theorem b_168_144 {d : Nat} {x4 : Int32} {y0 : Int32} {w : MW} : mX d 168 144 [mJ, mJ, mJ, mJ, .int x4, mJ] [.int y0] w = mX d 168 152 [mJ, mJ, mJ, mJ, .int x4, mJ] [.int (-1 : Int32), .int y0] w := by
  refine Eq.trans (X_iconst f_168_144 kc_i_m1) ?_
  refine Eq.trans (X_st f_168_145 rfl rfl) ?_
  exact mX_mask rfl
theorem b_168_148 {d : Nat} {a1 : Nat} {x4 : Int32} {y0 : Int32} {w : MW} (h0 : mTg w a1 = 10) : mX d 168 148 [mJ, .ref a1, mJ, mJ, .int x4, mJ] [.int y0] w = mX d 168 152 [mJ, mJ, mJ, mJ, .int x4, mJ] [.int (mI w a1 4), .int y0] w := by
  refine Eq.trans (X_st f_168_148 rfl rfl) ?_
  refine Eq.trans (X_getI f_168_149 h0 rfl) ?_
  exact mX_mask rfl
theorem b_168_152 {d : Nat} {x4 : Int32} {y0 : Int32} {y1 : Int32} {w : MW} : mX d 168 152 [mJ, mJ, mJ, mJ, .int x4, mJ] [.int y0, .int y1] w = (if ¬ y1 = y0 then mX d 168 159 [mJ, mJ, mJ, mJ, .int x4, mJ] [] w else mX d 168 155 [mJ, mJ, mJ, mJ, .int x4, mJ] [] w) := by
  refine Eq.trans (X_br f_168_152 rfl rfl) ?_
  exact mIte_eq (mX_mask rfl) (mX_mask rfl)
theorem b_168_155 {d : Nat} {x4 : Int32} {w : MW} : mX d 168 155 [mJ, mJ, mJ, mJ, .int x4, mJ] [] w = mX d 168 160 [mJ, mJ, mJ, mJ, mJ, mJ] [.int (nI 1)] w := by
  refine Eq.trans (X_iconst f_168_155 kc_i_1) ?_
  refine Eq.trans (X_st f_168_156 rfl rfl) ?_
  exact mX_mask rfl
theorem b_168_159 {d : Nat} {x4 : Int32} {w : MW} : mX d 168 159 [mJ, mJ, mJ, mJ, .int x4, mJ] [] w = mX d 168 160 [mJ, mJ, mJ, mJ, mJ, mJ] [.int (nI 0)] w := by
  refine Eq.trans (X_iconst f_168_159 kc_i_0) ?_
  exact mX_mask rfl
theorem b_168_160 {d : Nat} {y0 : Int32} {w : MW} (h0 : mRk 2 y0 = true) : mX d 168 160 [mJ, mJ, mJ, mJ, mJ, mJ] [.int y0] w = some (.inl (some (.int y0)), w) := by
  exact X_ireturn f_168_160 h0
theorem b_168_163 {d : Nat} {x4 : Int32} {w : MW} : mX d 168 163 [mJ, mJ, mJ, mJ, .int x4, mJ] [] w = (if ¬ x4 = nI 0 then mX d 168 172 [mJ, mJ, mJ, mJ, mJ, mJ] [] w else mX d 168 168 [mJ, mJ, mJ, mJ, mJ, mJ] [] w) := by
  refine Eq.trans (X_st f_168_163 rfl rfl) ?_
  refine Eq.trans (X_br f_168_165 rfl rfl) ?_
  exact mIte_eq (mX_mask rfl) (mX_mask rfl)
theorem b_168_168 {d : Nat} {w : MW} : mX d 168 168 [mJ, mJ, mJ, mJ, mJ, mJ] [] w = mX d 168 173 [mJ, mJ, mJ, mJ, mJ, mJ] [.int (nI 1)] w := by
  refine Eq.trans (X_iconst f_168_168 kc_i_1) ?_
  refine Eq.trans (X_st f_168_169 rfl rfl) ?_
  exact mX_mask rfl
theorem b_168_172 {d : Nat} {w : MW} : mX d 168 172 [mJ, mJ, mJ, mJ, mJ, mJ] [] w = mX d 168 173 [mJ, mJ, mJ, mJ, mJ, mJ] [.int (nI 0)] w := by
  refine Eq.trans (X_iconst f_168_172 kc_i_0) ?_
  exact mX_mask rfl
theorem b_168_173 {d : Nat} {y0 : Int32} {w : MW} (h0 : mRk 2 y0 = true) : mX d 168 173 [mJ, mJ, mJ, mJ, mJ, mJ] [.int y0] w = some (.inl (some (.int y0)), w) := by
  exact X_ireturn f_168_173 h0
theorem b_168_174 {d : Nat} {a0 : Nat} {a1 : Nat} {x2 : Int32} {x3 : Int32} {w : MW} (h0 : mTg w a1 = 10) (h1 : mR w a1 8 = some (gR w a1 8)) (h2 : 50 ≤ mTg w (gR w a1 8) ∧ mTg w (gR w a1 8) < 55) : mX (d + 1) 168 174 [.ref a0, .ref a1, .int x2, .int x3, mJ, mJ] [] w = mThenH (d + 1) 168 182 185 0 [.ref a0, .ref a1, .int x2, .int x3, mJ, mJ] [] (mK d 163 [.int (x2 >>> ((nI 5) &&& 31)), .int (nI (mLn w (gR w a1 8)))] w) := by
  refine Eq.trans (X_st f_168_174 rfl rfl) ?_
  refine Eq.trans (X_iconst f_168_175 kc_i_5) ?_
  refine Eq.trans (X_st f_168_176 rfl rfl) ?_
  refine Eq.trans (X_st f_168_177 rfl rfl) ?_
  refine Eq.trans (X_getR f_168_178 h0 rfl h1) ?_
  refine Eq.trans (X_st f_168_181 rfl (if_pos h2)) ?_
  exact X_callH f_168_182 rfl (Nat.le_of_ble_eq_true rfl) (Nat.le_of_ble_eq_true rfl) rfl (Nat.le_of_ble_eq_true rfl)
theorem b_168_185 {d : Nat} {a0 : Nat} {a1 : Nat} {x2 : Int32} {x3 : Int32} {y0 : Int32} {w : MW} : mX (d + 1) 168 185 [.ref a0, .ref a1, .int x2, .int x3, mJ, mJ] [.int y0] w = mThenH (d + 1) 168 193 196 0 [.ref a0, .ref a1, .int x2, .int x3, .int y0, mJ] [.int (nI 1)] (mK d 163 [.int (x2 >>> ((nI 4) &&& 31)), .int (nI 9)] w) := by
  refine Eq.trans (X_istore (L' := [.ref a0, .ref a1, .int x2, .int x3, .int y0, mJ]) f_168_185 (Nat.le_of_ble_eq_true rfl) rfl) ?_
  refine Eq.trans (X_iconst f_168_187 kc_i_1) ?_
  refine Eq.trans (X_st f_168_188 rfl rfl) ?_
  refine Eq.trans (X_iconst f_168_189 kc_i_4) ?_
  refine Eq.trans (X_st f_168_190 rfl rfl) ?_
  refine Eq.trans (X_bipush f_168_191 kc_b_9) ?_
  exact X_callH f_168_193 rfl (Nat.le_of_ble_eq_true rfl) (Nat.le_of_ble_eq_true rfl) rfl (Nat.le_of_ble_eq_true rfl)
theorem b_168_196 {d : Nat} {a0 : Nat} {a1 : Nat} {x3 : Nat} {x4 : Nat} {y0 : Int32} {y1 : Int32} {w : MW} (h0 : mTg w a1 = 10) (h1 : mR w a1 13 = some (gR w a1 13)) (h2 : 52 ≤ mTg w (gR w a1 13) ∧ mTg w (gR w a1 13) < 55) (h3 : x3 < 2147483648) (h4 : x3 < mLn w (gR w a1 13)) (h5 : mR w (gR w a1 13) x3 = some (gR w (gR w a1 13) x3)) (h6 : mTg w (gR w (gR w a1 13) x3) = 50) (h7 : x4 < 2147483648) (h8 : x4 < mLn w (gR w (gR w a1 13) x3)) : mX (d + 1) 168 196 [.ref a0, .ref a1, mJ, .int (nI x3), .int (nI x4), mJ] [.int y0, .int y1] w = mThenH (d + 1) 168 221 224 0 [.ref a0, .ref a1, mJ, .int (nI x3), .int (nI x4), .int (y1 + y0)] [.int (nI x4), .ref (gR w (gR w a1 13) x3)] (mK d 183 [.int (nI 20), .int ((mI w (gR w (gR w a1 13) x3) x4) + (y1 + y0))] w) := by
  refine Eq.trans (X_st f_168_196 rfl rfl) ?_
  refine Eq.trans (X_istore (L' := [.ref a0, .ref a1, mJ, .int (nI x3), .int (nI x4), .int (y1 + y0)]) f_168_197 (Nat.le_of_ble_eq_true rfl) rfl) ?_
  refine Eq.trans (X_st f_168_199 rfl rfl) ?_
  refine Eq.trans (X_getR f_168_200 h0 rfl h1) ?_
  refine Eq.trans (X_st f_168_203 rfl rfl) ?_
  refine Eq.trans (X_aald f_168_204 h2 (jnn h3) (jcl h3) h4 h5) ?_
  refine Eq.trans (X_st f_168_205 rfl rfl) ?_
  refine Eq.trans (X_bipush f_168_207 kc_b_20) ?_
  refine Eq.trans (X_st f_168_209 rfl rfl) ?_
  refine Eq.trans (X_getR f_168_210 h0 rfl h1) ?_
  refine Eq.trans (X_st f_168_213 rfl rfl) ?_
  refine Eq.trans (X_aald f_168_214 h2 (jnn h3) (jcl h3) h4 h5) ?_
  refine Eq.trans (X_st f_168_215 rfl rfl) ?_
  refine Eq.trans (X_iald f_168_217 h6 (jnn h7) (jcl h7) h8) ?_
  refine Eq.trans (X_st f_168_218 rfl rfl) ?_
  refine Eq.trans (X_st f_168_220 rfl rfl) ?_
  exact X_callH f_168_221 rfl (Nat.le_of_ble_eq_true rfl) (Nat.le_of_ble_eq_true rfl) rfl (Nat.le_of_ble_eq_true rfl)
theorem b_168_224 {d : Nat} {a0 : Nat} {a1 : Nat} {x3 : Int32} {x4 : Int32} {x5 : Int32} {y0 : Int32} {y1 : Nat} {b2 : Nat} {w : MW} (h0 : mTg w b2 = 50) (h1 : mE ≤ b2) (h2 : y1 < 2147483648) (h3 : y1 < mLn w b2) : mX d 168 224 [.ref a0, .ref a1, mJ, .int x3, .int x4, .int x5] [.int y0, .int (nI y1), .ref b2] w = mX d 168 225 [.ref a0, .ref a1, mJ, .int x3, .int x4, .int x5] [] (wI w b2 y1 y0) := by
  refine Eq.trans (X_iast f_168_224 h0 h1 (jnn h2) (jcl h2) h3) ?_
  exact mX_mask rfl
theorem b_168_225 {d : Nat} {a0 : Nat} {a1 : Nat} {x3 : Int32} {x4 : Int32} {x5 : Int32} {w : MW} (h0 : mTg w a0 = 9) : mX (d + 1) 168 225 [.ref a0, .ref a1, mJ, .int x3, .int x4, .int x5] [] w = mThenH (d + 1) 168 231 234 2 [.ref a0, .ref a1, mJ, .int x3, .int x4, .int x5] [] (mK d 109 [.ref a0, .int x3, .int x4, .int x5] w) := by
  refine Eq.trans (X_st f_168_225 rfl rfl) ?_
  refine Eq.trans (X_st f_168_226 rfl rfl) ?_
  refine Eq.trans (X_st f_168_227 rfl rfl) ?_
  refine Eq.trans (X_st f_168_229 rfl rfl) ?_
  exact X_callH f_168_231 rfl (Nat.le_of_ble_eq_true rfl) (Nat.le_of_ble_eq_true rfl) (decide_eq_true h0) (Nat.le_of_ble_eq_true rfl)
theorem b_168_234 {d : Nat} {a1 : Nat} {x3 : Nat} {x4 : Nat} {y0 : Int32} {w : MW} (h0 : mTg w a1 = 10) (h1 : mR w a1 13 = some (gR w a1 13)) (h2 : 52 ≤ mTg w (gR w a1 13) ∧ mTg w (gR w a1 13) < 55) (h3 : x3 < 2147483648) (h4 : x3 < mLn w (gR w a1 13)) (h5 : mR w (gR w a1 13) x3 = some (gR w (gR w a1 13) x3)) (h6 : mTg w (gR w (gR w a1 13) x3) = 50) (h7 : x4 < 2147483648) (h8 : x4 < mLn w (gR w (gR w a1 13) x3)) : mX d 168 234 [mJ, .ref a1, mJ, .int (nI x3), .int (nI x4), mJ] [.int y0] w = (if ¬ y0 = (mI w (gR w (gR w a1 13) x3) x4) then mX d 168 250 [mJ, mJ, mJ, mJ, mJ, mJ] [] w else mX d 168 246 [mJ, mJ, mJ, mJ, mJ, mJ] [] w) := by
  refine Eq.trans (X_st f_168_234 rfl rfl) ?_
  refine Eq.trans (X_getR f_168_235 h0 rfl h1) ?_
  refine Eq.trans (X_st f_168_238 rfl rfl) ?_
  refine Eq.trans (X_aald f_168_239 h2 (jnn h3) (jcl h3) h4 h5) ?_
  refine Eq.trans (X_st f_168_240 rfl rfl) ?_
  refine Eq.trans (X_iald f_168_242 h6 (jnn h7) (jcl h7) h8) ?_
  refine Eq.trans (X_br f_168_243 rfl rfl) ?_
  exact mIte_eq (mX_mask rfl) (mX_mask rfl)
theorem b_168_246 {d : Nat} {w : MW} : mX d 168 246 [mJ, mJ, mJ, mJ, mJ, mJ] [] w = mX d 168 251 [mJ, mJ, mJ, mJ, mJ, mJ] [.int (nI 1)] w := by
  refine Eq.trans (X_iconst f_168_246 kc_i_1) ?_
  refine Eq.trans (X_st f_168_247 rfl rfl) ?_
  exact mX_mask rfl
theorem b_168_250 {d : Nat} {w : MW} : mX d 168 250 [mJ, mJ, mJ, mJ, mJ, mJ] [] w = mX d 168 251 [mJ, mJ, mJ, mJ, mJ, mJ] [.int (nI 0)] w := by
  refine Eq.trans (X_iconst f_168_250 kc_i_0) ?_
  exact mX_mask rfl
theorem b_168_251 {d : Nat} {y0 : Int32} {w : MW} (h0 : mRk 2 y0 = true) : mX d 168 251 [mJ, mJ, mJ, mJ, mJ, mJ] [.int y0] w = some (.inl (some (.int y0)), w) := by
  exact X_ireturn f_168_251 h0
theorem b_168_252 {d : Nat} {a0 : Nat} {a1 : Nat} {x2 : Int32} {x3 : Int32} {w : MW} : mX (d + 1) 168 252 [.ref a0, .ref a1, .int x2, .int x3, mJ, mJ] [] w = mThenH (d + 1) 168 261 264 0 [.ref a0, .ref a1, .int x2, .int x3, mJ, mJ] [.int (x2 >>> ((nI 4) &&& 31)), .int (nI 1)] (mK d 163 [.int (x2 >>> ((nI 6) &&& 31)), .int (nI 3)] w) := by
  refine Eq.trans (X_iconst f_168_252 kc_i_1) ?_
  refine Eq.trans (X_st f_168_253 rfl rfl) ?_
  refine Eq.trans (X_iconst f_168_254 kc_i_4) ?_
  refine Eq.trans (X_st f_168_255 rfl rfl) ?_
  refine Eq.trans (X_st f_168_256 rfl rfl) ?_
  refine Eq.trans (X_bipush f_168_257 kc_b_6) ?_
  refine Eq.trans (X_st f_168_259 rfl rfl) ?_
  refine Eq.trans (X_iconst f_168_260 kc_i_3) ?_
  exact X_callH f_168_261 rfl (Nat.le_of_ble_eq_true rfl) (Nat.le_of_ble_eq_true rfl) rfl (Nat.le_of_ble_eq_true rfl)
theorem b_168_264 {d : Nat} {a0 : Nat} {a1 : Nat} {x3 : Int32} {y0 : Int32} {y1 : Int32} {y2 : Int32} {w : MW} : mX d 168 264 [.ref a0, .ref a1, mJ, .int x3, mJ, mJ] [.int y0, .int y1, .int y2] w = (if ¬ y0 = nI 0 then mX d 168 272 [.ref a0, .ref a1, mJ, .int x3, mJ, mJ] [.int y1, .int y2] w else mX d 168 267 [.ref a0, .ref a1, mJ, .int x3, mJ, mJ] [.int y1, .int y2] w) := by
  refine Eq.trans (X_br f_168_264 rfl rfl) ?_
  exact mIte_eq (mX_mask rfl) (mX_mask rfl)
theorem b_168_267 {d : Nat} {a0 : Nat} {a1 : Nat} {x3 : Int32} {y0 : Int32} {y1 : Int32} {w : MW} : mX d 168 267 [.ref a0, .ref a1, mJ, .int x3, mJ, mJ] [.int y0, .int y1] w = mX d 168 273 [.ref a0, .ref a1, mJ, .int x3, mJ, mJ] [.int (nI 20), .int y0, .int y1] w := by
  refine Eq.trans (X_bipush f_168_267 kc_b_20) ?_
  refine Eq.trans (X_st f_168_269 rfl rfl) ?_
  exact mX_mask rfl
theorem b_168_272 {d : Nat} {a0 : Nat} {a1 : Nat} {x3 : Int32} {y0 : Int32} {y1 : Int32} {w : MW} : mX d 168 272 [.ref a0, .ref a1, mJ, .int x3, mJ, mJ] [.int y0, .int y1] w = mX d 168 273 [.ref a0, .ref a1, mJ, .int x3, mJ, mJ] [.int (nI 3), .int y0, .int y1] w := by
  refine Eq.trans (X_iconst f_168_272 kc_i_3) ?_
  exact mX_mask rfl
theorem b_168_273 {d : Nat} {a0 : Nat} {a1 : Nat} {x3 : Int32} {y0 : Int32} {y1 : Int32} {y2 : Int32} {w : MW} : mX (d + 1) 168 273 [.ref a0, .ref a1, mJ, .int x3, mJ, mJ] [.int y0, .int y1, .int y2] w = mThenH (d + 1) 168 273 276 0 [.ref a0, .ref a1, mJ, .int x3, mJ, mJ] [.int y2] (mK d 163 [.int y1, .int y0] w) := by
  exact X_callH f_168_273 rfl (Nat.le_of_ble_eq_true rfl) (Nat.le_of_ble_eq_true rfl) rfl (Nat.le_of_ble_eq_true rfl)
theorem b_168_276 {d : Nat} {a0 : Nat} {a1 : Nat} {x3 : Nat} {y0 : Int32} {y1 : Int32} {w : MW} (h0 : mTg w a1 = 10) (h1 : mR w a1 12 = some (gR w a1 12)) (h2 : 52 ≤ mTg w (gR w a1 12) ∧ mTg w (gR w a1 12) < 55) (h3 : x3 < 2147483648) (h4 : x3 < mLn w (gR w a1 12)) (h5 : mR w (gR w a1 12) x3 = some (gR w (gR w a1 12) x3)) (h6 : mTg w (gR w (gR w a1 12) x3) = 50) (h7 : 1 < mLn w (gR w (gR w a1 12) x3)) (h8 : mE ≤ (gR w (gR w a1 12) x3)) : mX d 168 276 [.ref a0, .ref a1, mJ, .int (nI x3), mJ, mJ] [.int y0, .int y1] w = mX d 168 292 [.ref a0, .ref a1, mJ, .int (nI x3), .int (y1 + y0), mJ] [] (wI w (gR w (gR w a1 12) x3) 1 ((mI w (gR w (gR w a1 12) x3) 1) + (y1 + y0))) := by
  refine Eq.trans (X_st f_168_276 rfl rfl) ?_
  refine Eq.trans (X_istore (L' := [.ref a0, .ref a1, mJ, .int (nI x3), .int (y1 + y0), mJ]) f_168_277 (Nat.le_of_ble_eq_true rfl) rfl) ?_
  refine Eq.trans (X_st f_168_279 rfl rfl) ?_
  refine Eq.trans (X_getR f_168_280 h0 rfl h1) ?_
  refine Eq.trans (X_st f_168_283 rfl rfl) ?_
  refine Eq.trans (X_aald f_168_284 h2 (jnn h3) (jcl h3) h4 h5) ?_
  refine Eq.trans (X_iconst f_168_285 kc_i_1) ?_
  refine Eq.trans (X_dup2 f_168_286 rfl rfl) ?_
  refine Eq.trans (X_iald f_168_287 h6 kn_1 kl_1 h7) ?_
  refine Eq.trans (X_st f_168_288 rfl rfl) ?_
  refine Eq.trans (X_st f_168_290 rfl rfl) ?_
  refine Eq.trans (X_iast f_168_291 h6 h8 kn_1 kl_1 h7) ?_
  exact mX_mask rfl
theorem b_168_292 {d : Nat} {a0 : Nat} {a1 : Nat} {x3 : Int32} {x4 : Int32} {w : MW} (h0 : mTg w a0 = 9) : mX (d + 1) 168 292 [.ref a0, .ref a1, mJ, .int x3, .int x4, mJ] [] w = mThenH (d + 1) 168 296 299 2 [.ref a0, .ref a1, mJ, .int x3, .int x4, mJ] [] (mK d 110 [.ref a0, .int x3, .int x4] w) := by
  refine Eq.trans (X_st f_168_292 rfl rfl) ?_
  refine Eq.trans (X_st f_168_293 rfl rfl) ?_
  refine Eq.trans (X_st f_168_294 rfl rfl) ?_
  exact X_callH f_168_296 rfl (Nat.le_of_ble_eq_true rfl) (Nat.le_of_ble_eq_true rfl) (decide_eq_true h0) (Nat.le_of_ble_eq_true rfl)
theorem b_168_299 {d : Nat} {a1 : Nat} {x3 : Nat} {y0 : Int32} {w : MW} (h0 : mTg w a1 = 10) (h1 : mR w a1 12 = some (gR w a1 12)) (h2 : 52 ≤ mTg w (gR w a1 12) ∧ mTg w (gR w a1 12) < 55) (h3 : x3 < 2147483648) (h4 : x3 < mLn w (gR w a1 12)) (h5 : mR w (gR w a1 12) x3 = some (gR w (gR w a1 12) x3)) (h6 : mTg w (gR w (gR w a1 12) x3) = 50) (h7 : 1 < mLn w (gR w (gR w a1 12) x3)) : mX d 168 299 [mJ, .ref a1, mJ, .int (nI x3), mJ, mJ] [.int y0] w = (if ¬ y0 = (mI w (gR w (gR w a1 12) x3) 1) then mX d 168 314 [mJ, mJ, mJ, mJ, mJ, mJ] [] w else mX d 168 310 [mJ, mJ, mJ, mJ, mJ, mJ] [] w) := by
  refine Eq.trans (X_st f_168_299 rfl rfl) ?_
  refine Eq.trans (X_getR f_168_300 h0 rfl h1) ?_
  refine Eq.trans (X_st f_168_303 rfl rfl) ?_
  refine Eq.trans (X_aald f_168_304 h2 (jnn h3) (jcl h3) h4 h5) ?_
  refine Eq.trans (X_iconst f_168_305 kc_i_1) ?_
  refine Eq.trans (X_iald f_168_306 h6 kn_1 kl_1 h7) ?_
  refine Eq.trans (X_br f_168_307 rfl rfl) ?_
  exact mIte_eq (mX_mask rfl) (mX_mask rfl)
theorem b_168_310 {d : Nat} {w : MW} : mX d 168 310 [mJ, mJ, mJ, mJ, mJ, mJ] [] w = mX d 168 315 [mJ, mJ, mJ, mJ, mJ, mJ] [.int (nI 1)] w := by
  refine Eq.trans (X_iconst f_168_310 kc_i_1) ?_
  refine Eq.trans (X_st f_168_311 rfl rfl) ?_
  exact mX_mask rfl
theorem b_168_314 {d : Nat} {w : MW} : mX d 168 314 [mJ, mJ, mJ, mJ, mJ, mJ] [] w = mX d 168 315 [mJ, mJ, mJ, mJ, mJ, mJ] [.int (nI 0)] w := by
  refine Eq.trans (X_iconst f_168_314 kc_i_0) ?_
  exact mX_mask rfl
theorem b_168_315 {d : Nat} {y0 : Int32} {w : MW} (h0 : mRk 2 y0 = true) : mX d 168 315 [mJ, mJ, mJ, mJ, mJ, mJ] [.int y0] w = some (.inl (some (.int y0)), w) := by
  exact X_ireturn f_168_315 h0
theorem b_168_316 {d : Nat} {a0 : Nat} {a1 : Nat} {x2 : Int32} {w : MW} : mX (d + 1) 168 316 [.ref a0, .ref a1, .int x2, mJ, mJ, mJ] [] w = mThenH (d + 1) 168 326 329 0 [.ref a0, .ref a1, .int x2, mJ, mJ, mJ] [.int (x2 >>> ((nI 4) &&& 31)), .int (nI 1)] (mK d 163 [.int (x2 >>> ((nI 6) &&& 31)), .int (nI 8)] w) := by
  refine Eq.trans (X_iconst f_168_316 kc_i_1) ?_
  refine Eq.trans (X_st f_168_317 rfl rfl) ?_
  refine Eq.trans (X_iconst f_168_318 kc_i_4) ?_
  refine Eq.trans (X_st f_168_319 rfl rfl) ?_
  refine Eq.trans (X_st f_168_320 rfl rfl) ?_
  refine Eq.trans (X_bipush f_168_321 kc_b_6) ?_
  refine Eq.trans (X_st f_168_323 rfl rfl) ?_
  refine Eq.trans (X_bipush f_168_324 kc_b_8) ?_
  exact X_callH f_168_326 rfl (Nat.le_of_ble_eq_true rfl) (Nat.le_of_ble_eq_true rfl) rfl (Nat.le_of_ble_eq_true rfl)
theorem b_168_329 {d : Nat} {a0 : Nat} {a1 : Nat} {y0 : Int32} {y1 : Int32} {y2 : Int32} {w : MW} : mX d 168 329 [.ref a0, .ref a1, mJ, mJ, mJ, mJ] [.int y0, .int y1, .int y2] w = (if ¬ y0 = nI 0 then mX d 168 337 [.ref a0, .ref a1, mJ, mJ, mJ, mJ] [.int y1, .int y2] w else mX d 168 332 [.ref a0, .ref a1, mJ, mJ, mJ, mJ] [.int y1, .int y2] w) := by
  refine Eq.trans (X_br f_168_329 rfl rfl) ?_
  exact mIte_eq (mX_mask rfl) (mX_mask rfl)
theorem b_168_332 {d : Nat} {a0 : Nat} {a1 : Nat} {y0 : Int32} {y1 : Int32} {w : MW} : mX d 168 332 [.ref a0, .ref a1, mJ, mJ, mJ, mJ] [.int y0, .int y1] w = mX d 168 338 [.ref a0, .ref a1, mJ, mJ, mJ, mJ] [.int (nI 60), .int y0, .int y1] w := by
  refine Eq.trans (X_bipush f_168_332 kc_b_60) ?_
  refine Eq.trans (X_st f_168_334 rfl rfl) ?_
  exact mX_mask rfl
theorem b_168_337 {d : Nat} {a0 : Nat} {a1 : Nat} {y0 : Int32} {y1 : Int32} {w : MW} : mX d 168 337 [.ref a0, .ref a1, mJ, mJ, mJ, mJ] [.int y0, .int y1] w = mX d 168 338 [.ref a0, .ref a1, mJ, mJ, mJ, mJ] [.int (nI 3), .int y0, .int y1] w := by
  refine Eq.trans (X_iconst f_168_337 kc_i_3) ?_
  exact mX_mask rfl
theorem b_168_338 {d : Nat} {a0 : Nat} {a1 : Nat} {y0 : Int32} {y1 : Int32} {y2 : Int32} {w : MW} : mX (d + 1) 168 338 [.ref a0, .ref a1, mJ, mJ, mJ, mJ] [.int y0, .int y1, .int y2] w = mThenH (d + 1) 168 338 341 0 [.ref a0, .ref a1, mJ, mJ, mJ, mJ] [.int y2] (mK d 163 [.int y1, .int y0] w) := by
  exact X_callH f_168_338 rfl (Nat.le_of_ble_eq_true rfl) (Nat.le_of_ble_eq_true rfl) rfl (Nat.le_of_ble_eq_true rfl)
theorem b_168_341 {d : Nat} {a0 : Nat} {a1 : Nat} {y0 : Int32} {y1 : Int32} {w : MW} (h0 : mTg w a0 = 9) : mX (d + 1) 168 341 [.ref a0, .ref a1, mJ, mJ, mJ, mJ] [.int y0, .int y1] w = mThenH (d + 1) 168 347 350 2 [.ref a0, .ref a1, mJ, mJ, .int (y1 + y0), mJ] [] (mK d 111 [.ref a0, .int (y1 + y0)] w) := by
  refine Eq.trans (X_st f_168_341 rfl rfl) ?_
  refine Eq.trans (X_istore (L' := [.ref a0, .ref a1, mJ, mJ, .int (y1 + y0), mJ]) f_168_342 (Nat.le_of_ble_eq_true rfl) rfl) ?_
  refine Eq.trans (X_st f_168_344 rfl rfl) ?_
  refine Eq.trans (X_st f_168_345 rfl rfl) ?_
  exact X_callH f_168_347 rfl (Nat.le_of_ble_eq_true rfl) (Nat.le_of_ble_eq_true rfl) (decide_eq_true h0) (Nat.le_of_ble_eq_true rfl)
theorem b_168_350 {d : Nat} {a1 : Nat} {x4 : Int32} {y0 : Int32} {w : MW} (h0 : mTg w a1 = 10) : mX (d + 1) 168 350 [mJ, .ref a1, mJ, mJ, .int x4, mJ] [.int y0] w = mThenH (d + 1) 168 353 356 2 [mJ, .ref a1, mJ, mJ, .int x4, mJ] [.int y0] (mK d 145 [.ref a1, .int x4] w) := by
  refine Eq.trans (X_st f_168_350 rfl rfl) ?_
  refine Eq.trans (X_st f_168_351 rfl rfl) ?_
  exact X_callH f_168_353 rfl (Nat.le_of_ble_eq_true rfl) (Nat.le_of_ble_eq_true rfl) (decide_eq_true h0) (Nat.le_of_ble_eq_true rfl)
theorem b_168_356 {d : Nat} {y0 : Int32} {y1 : Int32} {w : MW} : mX d 168 356 [mJ, mJ, mJ, mJ, mJ, mJ] [.int y0, .int y1] w = (if ¬ y1 = y0 then mX d 168 363 [mJ, mJ, mJ, mJ, mJ, mJ] [] w else mX d 168 359 [mJ, mJ, mJ, mJ, mJ, mJ] [] w) := by
  refine Eq.trans (X_br f_168_356 rfl rfl) ?_
  exact mIte_eq (mX_mask rfl) (mX_mask rfl)
theorem b_168_359 {d : Nat} {w : MW} : mX d 168 359 [mJ, mJ, mJ, mJ, mJ, mJ] [] w = mX d 168 364 [mJ, mJ, mJ, mJ, mJ, mJ] [.int (nI 1)] w := by
  refine Eq.trans (X_iconst f_168_359 kc_i_1) ?_
  refine Eq.trans (X_st f_168_360 rfl rfl) ?_
  exact mX_mask rfl
theorem b_168_363 {d : Nat} {w : MW} : mX d 168 363 [mJ, mJ, mJ, mJ, mJ, mJ] [] w = mX d 168 364 [mJ, mJ, mJ, mJ, mJ, mJ] [.int (nI 0)] w := by
  refine Eq.trans (X_iconst f_168_363 kc_i_0) ?_
  exact mX_mask rfl
theorem b_168_364 {d : Nat} {y0 : Int32} {w : MW} (h0 : mRk 2 y0 = true) : mX d 168 364 [mJ, mJ, mJ, mJ, mJ, mJ] [.int y0] w = some (.inl (some (.int y0)), w) := by
  exact X_ireturn f_168_364 h0
