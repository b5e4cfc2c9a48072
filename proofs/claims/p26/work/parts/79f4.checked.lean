/-! ===== the checks, a method each (4) ===== -/
theorem mk_167_0 : ((tb_167.drop 0).take 100).all (mRow 167) = true := by decide +kernel
theorem mk_167_1 : ((tb_167.drop 100).take 100).all (mRow 167) = true := by decide +kernel
theorem mk_167_2 : ((tb_167.drop 200).take 100).all (mRow 167) = true := by decide +kernel
theorem mk_167_3 : ((tb_167.drop 300).take 100).all (mRow 167) = true := by decide +kernel
theorem mk_167_4 : ((tb_167.drop 400).take 100).all (mRow 167) = true := by decide +kernel
theorem mk_167_5 : ((tb_167.drop 500).take 100).all (mRow 167) = true := by decide +kernel
theorem mk_167_6 : ((tb_167.drop 600).take 100).all (mRow 167) = true := by decide +kernel
theorem mk_167_7 : ((tb_167.drop 700).take 100).all (mRow 167) = true := by decide +kernel
theorem mk_167 : tb_167.all (mRow 167) = true := by
  rw [show tb_167 = (tb_167.drop 0).take 100 ++ (tb_167.drop 100).take 100 ++ (tb_167.drop 200).take 100 ++ (tb_167.drop 300).take 100 ++ (tb_167.drop 400).take 100 ++ (tb_167.drop 500).take 100 ++ (tb_167.drop 600).take 100 ++ (tb_167.drop 700).take 100 from by decide +kernel]
  simp only [List.all_append, mk_167_0, mk_167_1, mk_167_2, mk_167_3, mk_167_4, mk_167_5, mk_167_6, mk_167_7, Bool.and_self]
theorem mk_168_0 : ((tb_168.drop 0).take 100).all (mRow 168) = true := by decide +kernel
theorem mk_168_1 : ((tb_168.drop 100).take 100).all (mRow 168) = true := by decide +kernel
theorem mk_168 : tb_168.all (mRow 168) = true := by
  rw [show tb_168 = (tb_168.drop 0).take 100 ++ (tb_168.drop 100).take 100 from by decide +kernel]
  simp only [List.all_append, mk_168_0, mk_168_1, Bool.and_self]
theorem mk_169_0 : ((tb_169.drop 0).take 100).all (mRow 169) = true := by decide +kernel
theorem mk_169_1 : ((tb_169.drop 100).take 100).all (mRow 169) = true := by decide +kernel
theorem mk_169_2 : ((tb_169.drop 200).take 100).all (mRow 169) = true := by decide +kernel
theorem mk_169_3 : ((tb_169.drop 300).take 100).all (mRow 169) = true := by decide +kernel
theorem mk_169_4 : ((tb_169.drop 400).take 100).all (mRow 169) = true := by decide +kernel
theorem mk_169_5 : ((tb_169.drop 500).take 100).all (mRow 169) = true := by decide +kernel
theorem mk_169_6 : ((tb_169.drop 600).take 100).all (mRow 169) = true := by decide +kernel
theorem mk_169 : tb_169.all (mRow 169) = true := by
  rw [show tb_169 = (tb_169.drop 0).take 100 ++ (tb_169.drop 100).take 100 ++ (tb_169.drop 200).take 100 ++ (tb_169.drop 300).take 100 ++ (tb_169.drop 400).take 100 ++ (tb_169.drop 500).take 100 ++ (tb_169.drop 600).take 100 from by decide +kernel]
  simp only [List.all_append, mk_169_0, mk_169_1, mk_169_2, mk_169_3, mk_169_4, mk_169_5, mk_169_6, Bool.and_self]
theorem mk_170 : tb_170.all (mRow 170) = true := by decide +kernel
theorem mk_171 : tb_171.all (mRow 171) = true := by decide +kernel
theorem mk_172 : tb_172.all (mRow 172) = true := by decide +kernel
theorem mk_173 : tb_173.all (mRow 173) = true := by decide +kernel
theorem mk_174 : tb_174.all (mRow 174) = true := by decide +kernel
theorem mk_175 : tb_175.all (mRow 175) = true := by decide +kernel
theorem mk_176 : tb_176.all (mRow 176) = true := by decide +kernel
theorem mk_177 : tb_177.all (mRow 177) = true := by decide +kernel
theorem mk_178 : tb_178.all (mRow 178) = true := by decide +kernel
theorem mk_179 : tb_179.all (mRow 179) = true := by decide +kernel
theorem mk_180 : tb_180.all (mRow 180) = true := by decide +kernel
theorem mk_181 : tb_181.all (mRow 181) = true := by decide +kernel
theorem mk_182 : tb_182.all (mRow 182) = true := by decide +kernel
theorem mk_183 : tb_183.all (mRow 183) = true := by decide +kernel
theorem mk_184 : tb_184.all (mRow 184) = true := by decide +kernel
theorem mk_185 : tb_185.all (mRow 185) = true := by decide +kernel
theorem mk_186 : tb_186.all (mRow 186) = true := by decide +kernel
theorem mk_187 : tb_187.all (mRow 187) = true := by decide +kernel
theorem mk_188 : tb_188.all (mRow 188) = true := by decide +kernel
theorem mk_189 : tb_189.all (mRow 189) = true := by decide +kernel
theorem mk_190 : tb_190.all (mRow 190) = true := by decide +kernel
theorem mk_191 : tb_191.all (mRow 191) = true := by decide +kernel
theorem mk_192 : tb_192.all (mRow 192) = true := by decide +kernel
theorem mk_193 : tb_193.all (mRow 193) = true := by decide +kernel
theorem mk_194 : tb_194.all (mRow 194) = true := by decide +kernel
