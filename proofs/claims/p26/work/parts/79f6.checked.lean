/-! ===== the checks, a method each (6) ===== -/
theorem mk_169_10 : ((tb_169.drop 350).take 35).all (mRow 169) = true := by decide +kernel
theorem mk_169_11 : ((tb_169.drop 385).take 35).all (mRow 169) = true := by decide +kernel
theorem mk_169_12 : ((tb_169.drop 420).take 35).all (mRow 169) = true := by decide +kernel
theorem mk_169_13 : ((tb_169.drop 455).take 35).all (mRow 169) = true := by decide +kernel
theorem mk_169_14 : ((tb_169.drop 490).take 35).all (mRow 169) = true := by decide +kernel
theorem mk_169_15 : ((tb_169.drop 525).take 35).all (mRow 169) = true := by decide +kernel
theorem mk_169_16 : ((tb_169.drop 560).take 35).all (mRow 169) = true := by decide +kernel
theorem mk_169_17 : ((tb_169.drop 595).take 35).all (mRow 169) = true := by decide +kernel
theorem mk_169_18 : ((tb_169.drop 630).take 35).all (mRow 169) = true := by decide +kernel
theorem mk_169_19 : ((tb_169.drop 665).take 35).all (mRow 169) = true := by decide +kernel
theorem mk_169 : tb_169.all (mRow 169) = true := by
  rw [show tb_169 = (tb_169.drop 0).take 35 ++ (tb_169.drop 35).take 35 ++ (tb_169.drop 70).take 35 ++ (tb_169.drop 105).take 35 ++ (tb_169.drop 140).take 35 ++ (tb_169.drop 175).take 35 ++ (tb_169.drop 210).take 35 ++ (tb_169.drop 245).take 35 ++ (tb_169.drop 280).take 35 ++ (tb_169.drop 315).take 35 ++ (tb_169.drop 350).take 35 ++ (tb_169.drop 385).take 35 ++ (tb_169.drop 420).take 35 ++ (tb_169.drop 455).take 35 ++ (tb_169.drop 490).take 35 ++ (tb_169.drop 525).take 35 ++ (tb_169.drop 560).take 35 ++ (tb_169.drop 595).take 35 ++ (tb_169.drop 630).take 35 ++ (tb_169.drop 665).take 35 from by decide +kernel]
  simp only [List.all_append, mk_169_0, mk_169_1, mk_169_2, mk_169_3, mk_169_4, mk_169_5, mk_169_6, mk_169_7, mk_169_8, mk_169_9, mk_169_10, mk_169_11, mk_169_12, mk_169_13, mk_169_14, mk_169_15, mk_169_16, mk_169_17, mk_169_18, mk_169_19, Bool.and_self]
