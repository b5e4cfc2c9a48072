/-! ===== the checks, a method each (5) ===== -/
theorem mk_169_0 : ((tb_169.drop 0).take 35).all (mRow 169) = true := by decide +kernel
theorem mk_169_1 : ((tb_169.drop 35).take 35).all (mRow 169) = true := by decide +kernel
theorem mk_169_2 : ((tb_169.drop 70).take 35).all (mRow 169) = true := by decide +kernel
theorem mk_169_3 : ((tb_169.drop 105).take 35).all (mRow 169) = true := by decide +kernel
theorem mk_169_4 : ((tb_169.drop 140).take 35).all (mRow 169) = true := by decide +kernel
theorem mk_169_5 : ((tb_169.drop 175).take 35).all (mRow 169) = true := by decide +kernel
theorem mk_169_6 : ((tb_169.drop 210).take 35).all (mRow 169) = true := by decide +kernel
theorem mk_169_7 : ((tb_169.drop 245).take 35).all (mRow 169) = true := by decide +kernel
theorem mk_169_8 : ((tb_169.drop 280).take 35).all (mRow 169) = true := by decide +kernel
theorem mk_169_9 : ((tb_169.drop 315).take 35).all (mRow 169) = true := by decide +kernel
