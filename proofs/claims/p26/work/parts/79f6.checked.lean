/-! ===== the checks, a method each (6) ===== -/
theorem mk_169_8 : ((tb_169.drop 311).take 50).all (mRow 169) = true := by decide +kernel
theorem mk_169_9 : ((tb_169.drop 361).take 50).all (mRow 169) = true := by decide +kernel
theorem mk_169_10 : ((tb_169.drop 411).take 50).all (mRow 169) = true := by decide +kernel
theorem mk_169_11 : ((tb_169.drop 461).take 50).all (mRow 169) = true := by decide +kernel
theorem mk_169_12 : ((tb_169.drop 511).take 50).all (mRow 169) = true := by decide +kernel
theorem mk_169_13 : ((tb_169.drop 561).take 50).all (mRow 169) = true := by decide +kernel
theorem mk_169_14 : ((tb_169.drop 611).take 18).all (mRow 169) = true := by decide +kernel
theorem mk_169_15 : ((tb_169.drop 629).take 1).all (mRow 169) = true := by
  have h : (tb_169.drop 629).take 1 = [(1212, .invokevirtual 273, 3, [147, 2, 2, 10, 896, 897, 898])] := by decide +kernel
  rw [h, List.all_cons, mk_169_r629]
  rfl
theorem mk_169_16 : ((tb_169.drop 630).take 100).all (mRow 169) = true := by decide +kernel
theorem mk_169 : tb_169.all (mRow 169) = true := by
  rw [show tb_169 = (tb_169.drop 0).take 10 ++ (tb_169.drop 10).take 1 ++ (tb_169.drop 11).take 50 ++ (tb_169.drop 61).take 50 ++ (tb_169.drop 111).take 50 ++ (tb_169.drop 161).take 50 ++ (tb_169.drop 211).take 50 ++ (tb_169.drop 261).take 50 ++ (tb_169.drop 311).take 50 ++ (tb_169.drop 361).take 50 ++ (tb_169.drop 411).take 50 ++ (tb_169.drop 461).take 50 ++ (tb_169.drop 511).take 50 ++ (tb_169.drop 561).take 50 ++ (tb_169.drop 611).take 18 ++ (tb_169.drop 629).take 1 ++ (tb_169.drop 630).take 100 from by decide +kernel]
  simp only [List.all_append, mk_169_0, mk_169_1, mk_169_2, mk_169_3, mk_169_4, mk_169_5, mk_169_6, mk_169_7, mk_169_8, mk_169_9, mk_169_10, mk_169_11, mk_169_12, mk_169_13, mk_169_14, mk_169_15, mk_169_16, Bool.and_self]
