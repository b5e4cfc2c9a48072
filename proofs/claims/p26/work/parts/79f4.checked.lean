/-! ===== the checks, a method each (4) ===== -/
theorem mk_167_0 : ((tb_167.drop 0).take 100).all (mRow 167) = true := by decide +kernel
theorem mk_167_1 : ((tb_167.drop 100).take 100).all (mRow 167) = true := by decide +kernel
theorem mk_167_2 : ((tb_167.drop 200).take 100).all (mRow 167) = true := by decide +kernel
theorem mk_167_3 : ((tb_167.drop 300).take 100).all (mRow 167) = true := by decide +kernel
theorem mk_167_4 : ((tb_167.drop 400).take 100).all (mRow 167) = true := by decide +kernel
theorem mk_167_5 : ((tb_167.drop 500).take 100).all (mRow 167) = true := by decide +kernel
theorem mk_167_6 : ((tb_167.drop 600).take 100).all (mRow 167) = true := by decide +kernel
theorem mk_167_7 : ((tb_167.drop 700).take 100).all (mRow 167) = true := by decide +kernel
theorem mk_167 : tb_167.all (mRow 167) = true := by
  rw [show tb_167 = (tb_167.drop 0).take 100 ++ (tb_167.drop 100).take 100 ++ (tb_167.drop 200).take 100 ++ (tb_167.drop 300).take 100 ++ (tb_167.drop 400).take 100 ++ (tb_167.drop 500).take 100 ++ (tb_167.drop 600).take 100 ++ (tb_167.drop 700).take 100 from by decide +kernel]
  simp only [List.all_append, mk_167_0, mk_167_1, mk_167_2, mk_167_3, mk_167_4, mk_167_5, mk_167_6, mk_167_7, Bool.and_self]
theorem mk_168_0 : ((tb_168.drop 0).take 100).all (mRow 168) = true := by decide +kernel
theorem mk_168_1 : ((tb_168.drop 100).take 100).all (mRow 168) = true := by decide +kernel
theorem mk_168 : tb_168.all (mRow 168) = true := by
  rw [show tb_168 = (tb_168.drop 0).take 100 ++ (tb_168.drop 100).take 100 from by decide +kernel]
  simp only [List.all_append, mk_168_0, mk_168_1, Bool.and_self]
