/-! ===== the checks, a method each (3) ===== -/
theorem mk_119 : tb_119.all (mRow 119) = true := by decide +kernel
theorem mk_120 : tb_120.all (mRow 120) = true := by decide +kernel
theorem mk_121 : tb_121.all (mRow 121) = true := by decide +kernel
theorem mk_122 : tb_122.all (mRow 122) = true := by decide +kernel
theorem mk_123 : tb_123.all (mRow 123) = true := by decide +kernel
theorem mk_124 : tb_124.all (mRow 124) = true := by decide +kernel
theorem mk_125 : tb_125.all (mRow 125) = true := by decide +kernel
theorem mk_126 : tb_126.all (mRow 126) = true := by decide +kernel
theorem mk_127 : tb_127.all (mRow 127) = true := by decide +kernel
theorem mk_128 : tb_128.all (mRow 128) = true := by decide +kernel
theorem mk_129 : tb_129.all (mRow 129) = true := by decide +kernel
theorem mk_130 : tb_130.all (mRow 130) = true := by decide +kernel
theorem mk_131 : tb_131.all (mRow 131) = true := by decide +kernel
theorem mk_132 : tb_132.all (mRow 132) = true := by decide +kernel
theorem mk_133 : tb_133.all (mRow 133) = true := by decide +kernel
theorem mk_134_0 : ((tb_134.drop 0).take 100).all (mRow 134) = true := by decide +kernel
theorem mk_134_1 : ((tb_134.drop 100).take 100).all (mRow 134) = true := by decide +kernel
theorem mk_134 : tb_134.all (mRow 134) = true := by
  rw [show tb_134 = (tb_134.drop 0).take 100 ++ (tb_134.drop 100).take 100 from by decide +kernel]
  simp only [List.all_append, mk_134_0, mk_134_1, Bool.and_self]
theorem mk_135 : tb_135.all (mRow 135) = true := by decide +kernel
theorem mk_136 : tb_136.all (mRow 136) = true := by decide +kernel
theorem mk_137 : tb_137.all (mRow 137) = true := by decide +kernel
theorem mk_138 : tb_138.all (mRow 138) = true := by decide +kernel
theorem mk_139 : tb_139.all (mRow 139) = true := by decide +kernel
theorem mk_140 : tb_140.all (mRow 140) = true := by decide +kernel
theorem mk_141_0 : ((tb_141.drop 0).take 100).all (mRow 141) = true := by decide +kernel
theorem mk_141_1 : ((tb_141.drop 100).take 100).all (mRow 141) = true := by decide +kernel
theorem mk_141 : tb_141.all (mRow 141) = true := by
  rw [show tb_141 = (tb_141.drop 0).take 100 ++ (tb_141.drop 100).take 100 from by decide +kernel]
  simp only [List.all_append, mk_141_0, mk_141_1, Bool.and_self]
theorem mk_142 : tb_142.all (mRow 142) = true := by decide +kernel
theorem mk_143_0 : ((tb_143.drop 0).take 100).all (mRow 143) = true := by decide +kernel
theorem mk_143_1 : ((tb_143.drop 100).take 100).all (mRow 143) = true := by decide +kernel
theorem mk_143_2 : ((tb_143.drop 200).take 100).all (mRow 143) = true := by decide +kernel
theorem mk_143 : tb_143.all (mRow 143) = true := by
  rw [show tb_143 = (tb_143.drop 0).take 100 ++ (tb_143.drop 100).take 100 ++ (tb_143.drop 200).take 100 from by decide +kernel]
  simp only [List.all_append, mk_143_0, mk_143_1, mk_143_2, Bool.and_self]
theorem mk_144 : tb_144.all (mRow 144) = true := by decide +kernel
theorem mk_145 : tb_145.all (mRow 145) = true := by decide +kernel
theorem mk_146 : tb_146.all (mRow 146) = true := by decide +kernel
theorem mk_147_0 : ((tb_147.drop 0).take 100).all (mRow 147) = true := by decide +kernel
theorem mk_147_1 : ((tb_147.drop 100).take 100).all (mRow 147) = true := by decide +kernel
theorem mk_147_2 : ((tb_147.drop 200).take 100).all (mRow 147) = true := by decide +kernel
theorem mk_147_3 : ((tb_147.drop 300).take 100).all (mRow 147) = true := by decide +kernel
theorem mk_147 : tb_147.all (mRow 147) = true := by
  rw [show tb_147 = (tb_147.drop 0).take 100 ++ (tb_147.drop 100).take 100 ++ (tb_147.drop 200).take 100 ++ (tb_147.drop 300).take 100 from by decide +kernel]
  simp only [List.all_append, mk_147_0, mk_147_1, mk_147_2, mk_147_3, Bool.and_self]
theorem mk_148 : tb_148.all (mRow 148) = true := by decide +kernel
theorem mk_149 : tb_149.all (mRow 149) = true := by decide +kernel
theorem mk_150 : tb_150.all (mRow 150) = true := by decide +kernel
theorem mk_151 : tb_151.all (mRow 151) = true := by decide +kernel
theorem mk_152 : tb_152.all (mRow 152) = true := by decide +kernel
theorem mk_153 : tb_153.all (mRow 153) = true := by decide +kernel
theorem mk_154 : tb_154.all (mRow 154) = true := by decide +kernel
theorem mk_155 : tb_155.all (mRow 155) = true := by decide +kernel
theorem mk_156 : tb_156.all (mRow 156) = true := by decide +kernel
theorem mk_157 : tb_157.all (mRow 157) = true := by decide +kernel
theorem mk_158 : tb_158.all (mRow 158) = true := by decide +kernel
theorem mk_159 : tb_159.all (mRow 159) = true := by decide +kernel
theorem mk_160 : tb_160.all (mRow 160) = true := by decide +kernel
theorem mk_161 : tb_161.all (mRow 161) = true := by decide +kernel
theorem mk_162 : tb_162.all (mRow 162) = true := by decide +kernel
theorem mk_163 : tb_163.all (mRow 163) = true := by decide +kernel
theorem mk_164 : tb_164.all (mRow 164) = true := by decide +kernel
theorem mk_165 : tb_165.all (mRow 165) = true := by decide +kernel
theorem mk_166_0 : ((tb_166.drop 0).take 100).all (mRow 166) = true := by decide +kernel
theorem mk_166_1 : ((tb_166.drop 100).take 100).all (mRow 166) = true := by decide +kernel
theorem mk_166 : tb_166.all (mRow 166) = true := by
  rw [show tb_166 = (tb_166.drop 0).take 100 ++ (tb_166.drop 100).take 100 from by decide +kernel]
  simp only [List.all_append, mk_166_0, mk_166_1, Bool.and_self]
