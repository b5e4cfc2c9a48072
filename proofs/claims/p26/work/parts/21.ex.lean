/-! ===== LIVENESS, by computation ===== -/
theorem mBelow {P : Nat → Prop} {n : Nat} (h : ∀ k, k < n → P k) (hn : P n) : ∀ k, k < n + 1 → P k := fun k hk => by
  rcases Nat.lt_or_ge k n with g | g
  · exact h k g
  · have : k = n := by omega
    subst this
    exact hn
theorem mBelow0 {P : Nat → Prop} : ∀ k, k < 0 → P k := fun k hk => absurd hk (Nat.not_lt_zero k)
theorem lvk_0 : tb_0.all (mLvRow 0) = true := by decide +kernel
theorem lvk_1 : tb_1.all (mLvRow 1) = true := by decide +kernel
theorem lvk_2 : tb_2.all (mLvRow 2) = true := by decide +kernel
theorem lvk_3 : tb_3.all (mLvRow 3) = true := by decide +kernel
theorem lvk_4 : tb_4.all (mLvRow 4) = true := by decide +kernel
theorem lvk_5 : tb_5.all (mLvRow 5) = true := by decide +kernel
theorem lvk_6 : tb_6.all (mLvRow 6) = true := by decide +kernel
theorem lvk_7 : tb_7.all (mLvRow 7) = true := by decide +kernel
theorem lvk_8 : tb_8.all (mLvRow 8) = true := by decide +kernel
theorem lvk_9 : tb_9.all (mLvRow 9) = true := by decide +kernel
theorem lvk_10 : tb_10.all (mLvRow 10) = true := by decide +kernel
theorem lvk_11 : tb_11.all (mLvRow 11) = true := by decide +kernel
theorem lvk_12 : tb_12.all (mLvRow 12) = true := by decide +kernel
theorem lvk_13 : tb_13.all (mLvRow 13) = true := by decide +kernel
theorem lvk_14 : tb_14.all (mLvRow 14) = true := by decide +kernel
theorem lvk_15 : tb_15.all (mLvRow 15) = true := by decide +kernel
theorem lvk_16 : tb_16.all (mLvRow 16) = true := by decide +kernel
theorem lvk_17 : tb_17.all (mLvRow 17) = true := by decide +kernel
theorem lvk_18 : tb_18.all (mLvRow 18) = true := by decide +kernel
theorem lvk_19 : tb_19.all (mLvRow 19) = true := by decide +kernel
theorem lvk_20 : tb_20.all (mLvRow 20) = true := by decide +kernel
theorem lvk_21 : tb_21.all (mLvRow 21) = true := by decide +kernel
theorem lvk_22 : tb_22.all (mLvRow 22) = true := by decide +kernel
theorem lvk_23 : tb_23.all (mLvRow 23) = true := by decide +kernel
theorem lvk_24 : tb_24.all (mLvRow 24) = true := by decide +kernel
theorem lvk_25 : tb_25.all (mLvRow 25) = true := by decide +kernel
theorem lvk_26 : tb_26.all (mLvRow 26) = true := by decide +kernel
theorem lvk_27 : tb_27.all (mLvRow 27) = true := by decide +kernel
theorem lvk_28 : tb_28.all (mLvRow 28) = true := by decide +kernel
theorem lvk_29 : tb_29.all (mLvRow 29) = true := by decide +kernel
theorem lvk_30 : tb_30.all (mLvRow 30) = true := by decide +kernel
theorem lvk_31 : tb_31.all (mLvRow 31) = true := by decide +kernel
theorem lvk_32 : tb_32.all (mLvRow 32) = true := by decide +kernel
theorem lvk_33 : tb_33.all (mLvRow 33) = true := by decide +kernel
theorem lvk_34 : tb_34.all (mLvRow 34) = true := by decide +kernel
theorem lvk_35 : tb_35.all (mLvRow 35) = true := by decide +kernel
theorem lvk_36 : tb_36.all (mLvRow 36) = true := by decide +kernel
theorem lvk_37 : tb_37.all (mLvRow 37) = true := by decide +kernel
theorem lvk_38 : tb_38.all (mLvRow 38) = true := by decide +kernel
theorem lvk_39 : tb_39.all (mLvRow 39) = true := by decide +kernel
theorem lvk_40 : tb_40.all (mLvRow 40) = true := by decide +kernel
theorem lvk_41 : tb_41.all (mLvRow 41) = true := by decide +kernel
theorem lvk_42 : tb_42.all (mLvRow 42) = true := by decide +kernel
theorem lvk_43 : tb_43.all (mLvRow 43) = true := by decide +kernel
theorem lvk_44 : tb_44.all (mLvRow 44) = true := by decide +kernel
theorem lvk_45 : tb_45.all (mLvRow 45) = true := by decide +kernel
theorem lvk_46 : tb_46.all (mLvRow 46) = true := by decide +kernel
theorem lvk_47 : tb_47.all (mLvRow 47) = true := by decide +kernel
theorem lvk_48 : tb_48.all (mLvRow 48) = true := by decide +kernel
theorem lvk_49 : tb_49.all (mLvRow 49) = true := by decide +kernel
theorem lvk_50 : tb_50.all (mLvRow 50) = true := by decide +kernel
theorem lvk_51 : tb_51.all (mLvRow 51) = true := by decide +kernel
theorem lvk_52 : tb_52.all (mLvRow 52) = true := by decide +kernel
theorem lvk_53 : tb_53.all (mLvRow 53) = true := by decide +kernel
theorem lvk_54 : tb_54.all (mLvRow 54) = true := by decide +kernel
theorem lvk_55 : tb_55.all (mLvRow 55) = true := by decide +kernel
theorem lvk_56 : tb_56.all (mLvRow 56) = true := by decide +kernel
theorem lvk_57 : tb_57.all (mLvRow 57) = true := by decide +kernel
theorem lvk_58 : tb_58.all (mLvRow 58) = true := by decide +kernel
theorem lvk_59 : tb_59.all (mLvRow 59) = true := by decide +kernel
theorem lvk_60 : tb_60.all (mLvRow 60) = true := by decide +kernel
theorem lvk_61 : tb_61.all (mLvRow 61) = true := by decide +kernel
theorem lvk_62 : tb_62.all (mLvRow 62) = true := by decide +kernel
theorem lvk_63 : tb_63.all (mLvRow 63) = true := by decide +kernel
theorem lvk_64 : tb_64.all (mLvRow 64) = true := by decide +kernel
theorem lvk_65 : tb_65.all (mLvRow 65) = true := by decide +kernel
theorem lvk_66 : tb_66.all (mLvRow 66) = true := by decide +kernel
theorem lvk_67 : tb_67.all (mLvRow 67) = true := by decide +kernel
theorem lvk_68 : tb_68.all (mLvRow 68) = true := by decide +kernel
theorem lvk_69 : tb_69.all (mLvRow 69) = true := by decide +kernel
theorem lvk_70 : tb_70.all (mLvRow 70) = true := by decide +kernel
theorem lvk_71 : tb_71.all (mLvRow 71) = true := by decide +kernel
theorem lvk_72 : tb_72.all (mLvRow 72) = true := by decide +kernel
theorem lvk_73 : tb_73.all (mLvRow 73) = true := by decide +kernel
theorem lvk_74 : tb_74.all (mLvRow 74) = true := by decide +kernel
theorem lvk_75 : tb_75.all (mLvRow 75) = true := by decide +kernel
theorem lvk_76 : tb_76.all (mLvRow 76) = true := by decide +kernel
theorem lvk_77 : tb_77.all (mLvRow 77) = true := by decide +kernel
theorem lvk_78 : tb_78.all (mLvRow 78) = true := by decide +kernel
theorem lvk_79 : tb_79.all (mLvRow 79) = true := by decide +kernel
theorem lvk_80 : tb_80.all (mLvRow 80) = true := by decide +kernel
theorem lvk_81 : tb_81.all (mLvRow 81) = true := by decide +kernel
theorem lvk_82 : tb_82.all (mLvRow 82) = true := by decide +kernel
theorem lvk_83 : tb_83.all (mLvRow 83) = true := by decide +kernel
theorem lvk_84 : tb_84.all (mLvRow 84) = true := by decide +kernel
theorem lvk_85 : tb_85.all (mLvRow 85) = true := by decide +kernel
theorem lvk_86 : tb_86.all (mLvRow 86) = true := by decide +kernel
theorem lvk_87 : tb_87.all (mLvRow 87) = true := by decide +kernel
theorem lvk_88 : tb_88.all (mLvRow 88) = true := by decide +kernel
theorem lvk_89 : tb_89.all (mLvRow 89) = true := by decide +kernel
theorem lvk_90 : tb_90.all (mLvRow 90) = true := by decide +kernel
theorem lvk_91 : tb_91.all (mLvRow 91) = true := by decide +kernel
theorem lvk_92 : tb_92.all (mLvRow 92) = true := by decide +kernel
theorem lvk_93 : tb_93.all (mLvRow 93) = true := by decide +kernel
theorem lvk_94 : tb_94.all (mLvRow 94) = true := by decide +kernel
theorem lvk_95 : tb_95.all (mLvRow 95) = true := by decide +kernel
theorem lvk_96 : tb_96.all (mLvRow 96) = true := by decide +kernel
theorem lvk_97 : tb_97.all (mLvRow 97) = true := by decide +kernel
theorem lvk_98 : tb_98.all (mLvRow 98) = true := by decide +kernel
theorem lvk_99 : tb_99.all (mLvRow 99) = true := by decide +kernel
theorem lvk_100 : tb_100.all (mLvRow 100) = true := by decide +kernel
theorem lvk_101 : tb_101.all (mLvRow 101) = true := by decide +kernel
theorem lvk_102 : tb_102.all (mLvRow 102) = true := by decide +kernel
theorem lvk_103 : tb_103.all (mLvRow 103) = true := by decide +kernel
theorem lvk_104 : tb_104.all (mLvRow 104) = true := by decide +kernel
theorem lvk_105 : tb_105.all (mLvRow 105) = true := by decide +kernel
theorem lvk_106 : tb_106.all (mLvRow 106) = true := by decide +kernel
theorem lvk_107 : tb_107.all (mLvRow 107) = true := by decide +kernel
theorem lvk_108 : tb_108.all (mLvRow 108) = true := by decide +kernel
theorem lvk_109 : tb_109.all (mLvRow 109) = true := by decide +kernel
theorem lvk_110 : tb_110.all (mLvRow 110) = true := by decide +kernel
theorem lvk_111 : tb_111.all (mLvRow 111) = true := by decide +kernel
theorem lvk_112 : tb_112.all (mLvRow 112) = true := by decide +kernel
theorem lvk_113 : tb_113.all (mLvRow 113) = true := by decide +kernel
theorem lvk_114 : tb_114.all (mLvRow 114) = true := by decide +kernel
theorem lvk_115 : tb_115.all (mLvRow 115) = true := by decide +kernel
theorem lvk_116 : tb_116.all (mLvRow 116) = true := by decide +kernel
theorem lvk_117 : tb_117.all (mLvRow 117) = true := by decide +kernel
theorem lvk_118 : tb_118.all (mLvRow 118) = true := by decide +kernel
theorem lvk_119 : tb_119.all (mLvRow 119) = true := by decide +kernel
theorem lvk_120 : tb_120.all (mLvRow 120) = true := by decide +kernel
theorem lvk_121 : tb_121.all (mLvRow 121) = true := by decide +kernel
theorem lvk_122 : tb_122.all (mLvRow 122) = true := by decide +kernel
theorem lvk_123 : tb_123.all (mLvRow 123) = true := by decide +kernel
theorem lvk_124 : tb_124.all (mLvRow 124) = true := by decide +kernel
theorem lvk_125 : tb_125.all (mLvRow 125) = true := by decide +kernel
theorem lvk_126 : tb_126.all (mLvRow 126) = true := by decide +kernel
theorem lvk_127 : tb_127.all (mLvRow 127) = true := by decide +kernel
theorem lvk_128 : tb_128.all (mLvRow 128) = true := by decide +kernel
theorem lvk_129 : tb_129.all (mLvRow 129) = true := by decide +kernel
theorem lvk_130 : tb_130.all (mLvRow 130) = true := by decide +kernel
theorem lvk_131 : tb_131.all (mLvRow 131) = true := by decide +kernel
theorem lvk_132 : tb_132.all (mLvRow 132) = true := by decide +kernel
theorem lvk_133 : tb_133.all (mLvRow 133) = true := by decide +kernel
theorem lvk_134 : tb_134.all (mLvRow 134) = true := by decide +kernel
theorem lvk_135 : tb_135.all (mLvRow 135) = true := by decide +kernel
theorem lvk_136 : tb_136.all (mLvRow 136) = true := by decide +kernel
theorem lvk_137 : tb_137.all (mLvRow 137) = true := by decide +kernel
theorem lvk_138 : tb_138.all (mLvRow 138) = true := by decide +kernel
theorem lvk_139 : tb_139.all (mLvRow 139) = true := by decide +kernel
theorem lvk_140 : tb_140.all (mLvRow 140) = true := by decide +kernel
theorem lvk_141 : tb_141.all (mLvRow 141) = true := by decide +kernel
theorem lvk_142 : tb_142.all (mLvRow 142) = true := by decide +kernel
theorem lvk_143 : tb_143.all (mLvRow 143) = true := by decide +kernel
theorem lvk_144 : tb_144.all (mLvRow 144) = true := by decide +kernel
theorem lvk_145 : tb_145.all (mLvRow 145) = true := by decide +kernel
theorem lvk_146 : tb_146.all (mLvRow 146) = true := by decide +kernel
theorem lvk_147 : tb_147.all (mLvRow 147) = true := by decide +kernel
theorem lvk_148 : tb_148.all (mLvRow 148) = true := by decide +kernel
theorem lvk_149 : tb_149.all (mLvRow 149) = true := by decide +kernel
theorem lvk_150 : tb_150.all (mLvRow 150) = true := by decide +kernel
theorem lvk_151 : tb_151.all (mLvRow 151) = true := by decide +kernel
theorem lvk_152 : tb_152.all (mLvRow 152) = true := by decide +kernel
theorem lvk_153 : tb_153.all (mLvRow 153) = true := by decide +kernel
theorem lvk_154 : tb_154.all (mLvRow 154) = true := by decide +kernel
theorem lvk_155 : tb_155.all (mLvRow 155) = true := by decide +kernel
theorem lvk_156 : tb_156.all (mLvRow 156) = true := by decide +kernel
theorem lvk_157 : tb_157.all (mLvRow 157) = true := by decide +kernel
theorem lvk_158 : tb_158.all (mLvRow 158) = true := by decide +kernel
theorem lvk_159 : tb_159.all (mLvRow 159) = true := by decide +kernel
theorem lvk_160 : tb_160.all (mLvRow 160) = true := by decide +kernel
theorem lvk_161 : tb_161.all (mLvRow 161) = true := by decide +kernel
theorem lvk_162 : tb_162.all (mLvRow 162) = true := by decide +kernel
theorem lvk_163 : tb_163.all (mLvRow 163) = true := by decide +kernel
theorem lvk_164 : tb_164.all (mLvRow 164) = true := by decide +kernel
theorem lvk_165 : tb_165.all (mLvRow 165) = true := by decide +kernel
theorem lvk_166 : tb_166.all (mLvRow 166) = true := by decide +kernel
theorem lvk_167_0 : ((tb_167.drop 0).take 100).all (mLvRow 167) = true := by decide +kernel
theorem lvk_167_100 : ((tb_167.drop 100).take 100).all (mLvRow 167) = true := by decide +kernel
theorem lvk_167_200 : ((tb_167.drop 200).take 100).all (mLvRow 167) = true := by decide +kernel
theorem lvk_167_300 : ((tb_167.drop 300).take 100).all (mLvRow 167) = true := by decide +kernel
theorem lvk_167_400 : ((tb_167.drop 400).take 100).all (mLvRow 167) = true := by decide +kernel
theorem lvk_167_500 : ((tb_167.drop 500).take 100).all (mLvRow 167) = true := by decide +kernel
theorem lvk_167_600 : ((tb_167.drop 600).take 100).all (mLvRow 167) = true := by decide +kernel
theorem lvk_167_700 : ((tb_167.drop 700).take 100).all (mLvRow 167) = true := by decide +kernel
theorem lvk_167 : tb_167.all (mLvRow 167) = true := by
  have e : tb_167 = (tb_167.drop 0).take 100 ++ (tb_167.drop 100).take 100 ++ (tb_167.drop 200).take 100 ++ (tb_167.drop 300).take 100 ++ (tb_167.drop 400).take 100 ++ (tb_167.drop 500).take 100 ++ (tb_167.drop 600).take 100 ++ (tb_167.drop 700).take 100 := by decide +kernel
  rw [e]
  simp only [List.all_append, Bool.and_eq_true]
  exact ⟨⟨⟨⟨⟨⟨⟨lvk_167_0, lvk_167_100⟩, lvk_167_200⟩, lvk_167_300⟩, lvk_167_400⟩, lvk_167_500⟩, lvk_167_600⟩, lvk_167_700⟩
theorem lvk_168 : tb_168.all (mLvRow 168) = true := by decide +kernel
theorem lvk_169_0 : ((tb_169.drop 0).take 100).all (mLvRow 169) = true := by decide +kernel
theorem lvk_169_100 : ((tb_169.drop 100).take 100).all (mLvRow 169) = true := by decide +kernel
theorem lvk_169_200 : ((tb_169.drop 200).take 100).all (mLvRow 169) = true := by decide +kernel
theorem lvk_169_300 : ((tb_169.drop 300).take 100).all (mLvRow 169) = true := by decide +kernel
theorem lvk_169_400 : ((tb_169.drop 400).take 100).all (mLvRow 169) = true := by decide +kernel
theorem lvk_169_500 : ((tb_169.drop 500).take 100).all (mLvRow 169) = true := by decide +kernel
theorem lvk_169_600 : ((tb_169.drop 600).take 100).all (mLvRow 169) = true := by decide +kernel
theorem lvk_169 : tb_169.all (mLvRow 169) = true := by
  have e : tb_169 = (tb_169.drop 0).take 100 ++ (tb_169.drop 100).take 100 ++ (tb_169.drop 200).take 100 ++ (tb_169.drop 300).take 100 ++ (tb_169.drop 400).take 100 ++ (tb_169.drop 500).take 100 ++ (tb_169.drop 600).take 100 := by decide +kernel
  rw [e]
  simp only [List.all_append, Bool.and_eq_true]
  exact ⟨⟨⟨⟨⟨⟨lvk_169_0, lvk_169_100⟩, lvk_169_200⟩, lvk_169_300⟩, lvk_169_400⟩, lvk_169_500⟩, lvk_169_600⟩
theorem lvk_170 : tb_170.all (mLvRow 170) = true := by decide +kernel
theorem lvk_171 : tb_171.all (mLvRow 171) = true := by decide +kernel
theorem lvk_172 : tb_172.all (mLvRow 172) = true := by decide +kernel
theorem lvk_173 : tb_173.all (mLvRow 173) = true := by decide +kernel
theorem lvk_174 : tb_174.all (mLvRow 174) = true := by decide +kernel
theorem lvk_175 : tb_175.all (mLvRow 175) = true := by decide +kernel
theorem lvk_176 : tb_176.all (mLvRow 176) = true := by decide +kernel
theorem lvk_177 : tb_177.all (mLvRow 177) = true := by decide +kernel
theorem lvk_178 : tb_178.all (mLvRow 178) = true := by decide +kernel
theorem lvk_179 : tb_179.all (mLvRow 179) = true := by decide +kernel
theorem lvk_180 : tb_180.all (mLvRow 180) = true := by decide +kernel
theorem lvk_181 : tb_181.all (mLvRow 181) = true := by decide +kernel
theorem lvk_182 : tb_182.all (mLvRow 182) = true := by decide +kernel
theorem lvk_183 : tb_183.all (mLvRow 183) = true := by decide +kernel
theorem lvk_184 : tb_184.all (mLvRow 184) = true := by decide +kernel
theorem lvk_185 : tb_185.all (mLvRow 185) = true := by decide +kernel
theorem lvk_186 : tb_186.all (mLvRow 186) = true := by decide +kernel
theorem lvk_187 : tb_187.all (mLvRow 187) = true := by decide +kernel
theorem lvk_188 : tb_188.all (mLvRow 188) = true := by decide +kernel
theorem lvk_189 : tb_189.all (mLvRow 189) = true := by decide +kernel
theorem lvk_190 : tb_190.all (mLvRow 190) = true := by decide +kernel
theorem lvk_191 : tb_191.all (mLvRow 191) = true := by decide +kernel
theorem lvk_192 : tb_192.all (mLvRow 192) = true := by decide +kernel
theorem lvk_193 : tb_193.all (mLvRow 193) = true := by decide +kernel
theorem lvk_194 : tb_194.all (mLvRow 194) = true := by decide +kernel
theorem lva_20 : ∀ k, k < 20 → (mtbs.getD k []).all (mLvRow k) = true := mBelow (mBelow (mBelow (mBelow (mBelow (mBelow (mBelow (mBelow (mBelow (mBelow (mBelow (mBelow (mBelow (mBelow (mBelow (mBelow (mBelow (mBelow (mBelow (mBelow (mBelow0) lvk_0) lvk_1) lvk_2) lvk_3) lvk_4) lvk_5) lvk_6) lvk_7) lvk_8) lvk_9) lvk_10) lvk_11) lvk_12) lvk_13) lvk_14) lvk_15) lvk_16) lvk_17) lvk_18) lvk_19
theorem lva_40 : ∀ k, k < 40 → (mtbs.getD k []).all (mLvRow k) = true := mBelow (mBelow (mBelow (mBelow (mBelow (mBelow (mBelow (mBelow (mBelow (mBelow (mBelow (mBelow (mBelow (mBelow (mBelow (mBelow (mBelow (mBelow (mBelow (mBelow (lva_20) lvk_20) lvk_21) lvk_22) lvk_23) lvk_24) lvk_25) lvk_26) lvk_27) lvk_28) lvk_29) lvk_30) lvk_31) lvk_32) lvk_33) lvk_34) lvk_35) lvk_36) lvk_37) lvk_38) lvk_39
theorem lva_60 : ∀ k, k < 60 → (mtbs.getD k []).all (mLvRow k) = true := mBelow (mBelow (mBelow (mBelow (mBelow (mBelow (mBelow (mBelow (mBelow (mBelow (mBelow (mBelow (mBelow (mBelow (mBelow (mBelow (mBelow (mBelow (mBelow (mBelow (lva_40) lvk_40) lvk_41) lvk_42) lvk_43) lvk_44) lvk_45) lvk_46) lvk_47) lvk_48) lvk_49) lvk_50) lvk_51) lvk_52) lvk_53) lvk_54) lvk_55) lvk_56) lvk_57) lvk_58) lvk_59
theorem lva_80 : ∀ k, k < 80 → (mtbs.getD k []).all (mLvRow k) = true := mBelow (mBelow (mBelow (mBelow (mBelow (mBelow (mBelow (mBelow (mBelow (mBelow (mBelow (mBelow (mBelow (mBelow (mBelow (mBelow (mBelow (mBelow (mBelow (mBelow (lva_60) lvk_60) lvk_61) lvk_62) lvk_63) lvk_64) lvk_65) lvk_66) lvk_67) lvk_68) lvk_69) lvk_70) lvk_71) lvk_72) lvk_73) lvk_74) lvk_75) lvk_76) lvk_77) lvk_78) lvk_79
theorem lva_100 : ∀ k, k < 100 → (mtbs.getD k []).all (mLvRow k) = true := mBelow (mBelow (mBelow (mBelow (mBelow (mBelow (mBelow (mBelow (mBelow (mBelow (mBelow (mBelow (mBelow (mBelow (mBelow (mBelow (mBelow (mBelow (mBelow (mBelow (lva_80) lvk_80) lvk_81) lvk_82) lvk_83) lvk_84) lvk_85) lvk_86) lvk_87) lvk_88) lvk_89) lvk_90) lvk_91) lvk_92) lvk_93) lvk_94) lvk_95) lvk_96) lvk_97) lvk_98) lvk_99
theorem lva_120 : ∀ k, k < 120 → (mtbs.getD k []).all (mLvRow k) = true := mBelow (mBelow (mBelow (mBelow (mBelow (mBelow (mBelow (mBelow (mBelow (mBelow (mBelow (mBelow (mBelow (mBelow (mBelow (mBelow (mBelow (mBelow (mBelow (mBelow (lva_100) lvk_100) lvk_101) lvk_102) lvk_103) lvk_104) lvk_105) lvk_106) lvk_107) lvk_108) lvk_109) lvk_110) lvk_111) lvk_112) lvk_113) lvk_114) lvk_115) lvk_116) lvk_117) lvk_118) lvk_119
theorem lva_140 : ∀ k, k < 140 → (mtbs.getD k []).all (mLvRow k) = true := mBelow (mBelow (mBelow (mBelow (mBelow (mBelow (mBelow (mBelow (mBelow (mBelow (mBelow (mBelow (mBelow (mBelow (mBelow (mBelow (mBelow (mBelow (mBelow (mBelow (lva_120) lvk_120) lvk_121) lvk_122) lvk_123) lvk_124) lvk_125) lvk_126) lvk_127) lvk_128) lvk_129) lvk_130) lvk_131) lvk_132) lvk_133) lvk_134) lvk_135) lvk_136) lvk_137) lvk_138) lvk_139
theorem lva_160 : ∀ k, k < 160 → (mtbs.getD k []).all (mLvRow k) = true := mBelow (mBelow (mBelow (mBelow (mBelow (mBelow (mBelow (mBelow (mBelow (mBelow (mBelow (mBelow (mBelow (mBelow (mBelow (mBelow (mBelow (mBelow (mBelow (mBelow (lva_140) lvk_140) lvk_141) lvk_142) lvk_143) lvk_144) lvk_145) lvk_146) lvk_147) lvk_148) lvk_149) lvk_150) lvk_151) lvk_152) lvk_153) lvk_154) lvk_155) lvk_156) lvk_157) lvk_158) lvk_159
theorem lva_180 : ∀ k, k < 180 → (mtbs.getD k []).all (mLvRow k) = true := mBelow (mBelow (mBelow (mBelow (mBelow (mBelow (mBelow (mBelow (mBelow (mBelow (mBelow (mBelow (mBelow (mBelow (mBelow (mBelow (mBelow (mBelow (mBelow (mBelow (lva_160) lvk_160) lvk_161) lvk_162) lvk_163) lvk_164) lvk_165) lvk_166) lvk_167) lvk_168) lvk_169) lvk_170) lvk_171) lvk_172) lvk_173) lvk_174) lvk_175) lvk_176) lvk_177) lvk_178) lvk_179
theorem lva_195 : ∀ k, k < 195 → (mtbs.getD k []).all (mLvRow k) = true := mBelow (mBelow (mBelow (mBelow (mBelow (mBelow (mBelow (mBelow (mBelow (mBelow (mBelow (mBelow (mBelow (mBelow (mBelow (lva_180) lvk_180) lvk_181) lvk_182) lvk_183) lvk_184) lvk_185) lvk_186) lvk_187) lvk_188) lvk_189) lvk_190) lvk_191) lvk_192) lvk_193) lvk_194
theorem mLv_hall : ∀ k pc ins len ax, mFetch k pc = some (ins, len, ax) → mLvOk k pc ins len ax = true := by
  intro k pc ins len ax h
  have h1 := mFetch_mem h
  by_cases hk : k < 195
  · exact List.all_eq_true.mp (lva_195 k hk) _ h1
  · have h3 : mtbs.getD k [] = [] := by
      rw [List.getD_eq_getElem?_getD, List.getElem?_eq_none]
      · rfl
      · show 195 ≤ k
        omega
    rw [h3] at h1
    cases h1
theorem mX_ag {d k pc : Nat} {L L' st : List Value} {w : MW} (h : mAg (mLvm k pc) L L') : mX d k pc L st w = mX d k pc L' st w := by
  refine mOpt_ext fun v => ?_
  rw [mX_iff, mX_iff]
  constructor
  · rintro ⟨n, h1⟩
    exact ⟨n, (mexec_ag mLv_hall n d k pc L L' st w h).symm.trans h1⟩
  · rintro ⟨n, h1⟩
    exact ⟨n, (mexec_ag mLv_hall n d k pc L L' st w h).trans h1⟩
theorem mX_mask {d k pc : Nat} {L L' st : List Value} {w : MW} (h : mMask (mLvm k pc) L = L') : mX d k pc L st w = mX d k pc L' st w := by
  subst h
  exact mX_ag (mAg_mask _ _)
theorem mIte_eq {P : Prop} [hP : Decidable P] {α : Type} {a b c e : α} (h1 : a = c) (h2 : b = e) : (if P then a else b) = (if P then c else e) := by rw [h1, h2]
theorem mThen_eq {r : Option (MRes × MW)} {f g : Option Value → MW → Option (MRes × MW)} (h : ∀ v w, f v w = g v w) : mThen r f = mThen r g := by
  have : f = g := funext fun v => funext fun w => h v w
  rw [this]
/-- what a reference cell holds (0 for null) -/
def gR (w : MW) (a f : Nat) : Nat := (mR w a f).getD 0
theorem gR_of {w : MW} {a f b : Nat} (h : mR w a f = some b) : gR w a f = b := by rw [gR, h]; rfl
theorem X_iconst {d k pc len : Nat} {L st : List Value} {w : MW} {n : Int} {v : Int32} (hf : mFetch k pc = some (.iconst n, len, [])) (h : Int32.ofInt n = v) : mX d k pc L st w = mX d k (pc + len) L (.int v :: st) w := by
  subst h
  exact X_st hf rfl rfl
theorem X_bipush {d k pc len : Nat} {L st : List Value} {w : MW} {n : Int} {v : Int32} (hf : mFetch k pc = some (.bipush n, len, [])) (h : (Int8.ofInt n).toInt32 = v) : mX d k pc L st w = mX d k (pc + len) L (.int v :: st) w := by
  subst h
  exact X_st hf rfl rfl
theorem X_sipush {d k pc len : Nat} {L st : List Value} {w : MW} {n : Int} {v : Int32} (hf : mFetch k pc = some (.sipush n, len, [])) (h : (Int16.ofInt n).toInt32 = v) : mX d k pc L st w = mX d k (pc + len) L (.int v :: st) w := by
  subst h
  exact X_st hf rfl rfl
theorem X_iinc {d k pc len i : Nat} {L L' st : List Value} {w : MW} {n : Int} {v x : Int32} (hf : mFetch k pc = some (.iinc i n, len, [])) (h : Int32.ofInt n = v) (hx : L[i]? = some (.int x)) (hl : mSt L i (.int (x + v)) = L') : mX d k pc L st w = mX d k (pc + len) L' st w := by
  subst h hl
  exact X_st hf rfl (by simp only [mstep, hx])
theorem X_getI {d k pc ci f z z2 len a i : Nat} {L st : List Value} {w : MW} (hf : mFetch k pc = some (.getfield i, len, [ci, f, z, z2])) (h : mTg w a = ci) (hr : mRef ci f = false) : mX d k pc L (.ref a :: st) w = mX d k (pc + len) L (.int (mI w a f) :: st) w :=
  X_st hf rfl (by simp only [mstep, if_pos h, hr]; rfl)
theorem X_getR {d k pc ci f z z2 len a i b : Nat} {L st : List Value} {w : MW} (hf : mFetch k pc = some (.getfield i, len, [ci, f, z, z2])) (h : mTg w a = ci) (hr : mRef ci f = true) (hb : mR w a f = some b) : mX d k pc L (.ref a :: st) w = mX d k (pc + len) L (.ref b :: st) w :=
  X_st hf rfl (by simp only [mstep, if_pos h, hr, hb]; rfl)
theorem X_putI {d k pc ci f z z2 len a i : Nat} {L st : List Value} {w : MW} {x : Int32} (hf : mFetch k pc = some (.putfield i, len, [ci, f, z, z2])) (h : mTg w a = ci) (h2 : mE ≤ a) (hr : mRef ci f = false) (hn : mNar (mTy ci f) x = true) : mX d k pc L (.int x :: .ref a :: st) w = mX d k (pc + len) L st (wI w a f x) :=
  X_st hf rfl (by simp only [mstep]; rw [if_pos ⟨h, h2⟩, if_pos ⟨hr, hn⟩])
theorem X_putR {d k pc ci f z z2 len a i b : Nat} {L st : List Value} {w : MW} (hf : mFetch k pc = some (.putfield i, len, [ci, f, z, z2])) (h : mTg w a = ci) (h2 : mE ≤ a) (hr : mRef ci f = true) : mX d k pc L (.ref b :: .ref a :: st) w = mX d k (pc + len) L st (wR w a f (some b)) :=
  X_st hf rfl (by simp only [mstep]; rw [if_pos ⟨h, h2⟩, if_pos hr])
theorem X_newa {d k pc t len n : Nat} {L st : List Value} {w : MW} {x : Int32} {ty : ArrayType} (hf : mFetch k pc = some (.newarray ty, len, [t])) (h1 : ¬ x < 0) (h2 : x.toNatClampNeg = n) (h3 : n ≤ 134217728) : mX d k pc L (.int x :: st) w = mX d k (pc + len) L (.ref (mSz w) :: st) (wN w t n n) := by
  subst h2
  exact X_st hf rfl (by simp only [mstep]; rw [if_pos ⟨h1, h3⟩])
theorem X_newq {d k pc t z i len n : Nat} {L st : List Value} {w : MW} {x : Int32} (hf : mFetch k pc = some (.anewarray i, len, [t, z])) (h1 : ¬ x < 0) (h2 : x.toNatClampNeg = n) (h3 : n ≤ 134217728) : mX d k pc L (.int x :: st) w = mX d k (pc + len) L (.ref (mSz w) :: st) (wN w t n n) := by
  subst h2
  exact X_st hf rfl (by simp only [mstep]; rw [if_pos ⟨h1, h3⟩])
theorem X_newm {d k pc i j len n m : Nat} {ax : List Nat} {L st : List Value} {w : MW} {x y : Int32} (hf : mFetch k pc = some (.multianewarray i j, len, ax)) (h1 : ¬ x < 0) (h2 : x.toNatClampNeg = n) (h3 : n ≤ 134217728) (h4 : ¬ y < 0) (h5 : y.toNatClampNeg = m) (h6 : m ≤ 134217728) : mX d k pc L (.int y :: .int x :: st) w = mX d k (pc + len) L (.ref (mSz w) :: st) (wM w n m) := by
  subst h2 h5
  exact X_st hf rfl (by simp only [mstep]; rw [if_pos ⟨⟨h1, h3⟩, h4, h6⟩])
theorem X_iald {d k pc len n a : Nat} {ax : List Nat} {L st : List Value} {w : MW} {x : Int32} (hf : mFetch k pc = some (.iaload, len, ax)) (h : mTg w a = 50) (h1 : ¬ x < 0) (h2 : x.toNatClampNeg = n) (h3 : n < mLn w a) : mX d k pc L (.int x :: .ref a :: st) w = mX d k (pc + len) L (.int (mI w a n) :: st) w := by
  subst h2
  exact X_st hf rfl (by simp only [mstep]; rw [if_pos ⟨h, h1, h3⟩])
theorem X_bald {d k pc len n a : Nat} {ax : List Nat} {L st : List Value} {w : MW} {x : Int32} (hf : mFetch k pc = some (.baload, len, ax)) (h : mTg w a = 51) (h1 : ¬ x < 0) (h2 : x.toNatClampNeg = n) (h3 : n < mLn w a) : mX d k pc L (.int x :: .ref a :: st) w = mX d k (pc + len) L (.int (mI w a n) :: st) w := by
  subst h2
  exact X_st hf rfl (by simp only [mstep]; rw [if_pos ⟨h, h1, h3⟩])
theorem X_aald {d k pc len n a b : Nat} {ax : List Nat} {L st : List Value} {w : MW} {x : Int32} (hf : mFetch k pc = some (.aaload, len, ax)) (h : 52 ≤ mTg w a ∧ mTg w a < 55) (h1 : ¬ x < 0) (h2 : x.toNatClampNeg = n) (h3 : n < mLn w a) (hb : mR w a n = some b) : mX d k pc L (.int x :: .ref a :: st) w = mX d k (pc + len) L (.ref b :: st) w := by
  subst h2
  exact X_st hf rfl (by simp only [mstep]; rw [if_pos ⟨h, h1, h3⟩, hb]; rfl)
theorem X_iast {d k pc len n a : Nat} {ax : List Nat} {L st : List Value} {w : MW} {x v : Int32} (hf : mFetch k pc = some (.iastore, len, ax)) (h : mTg w a = 50) (hE : mE ≤ a) (h1 : ¬ x < 0) (h2 : x.toNatClampNeg = n) (h3 : n < mLn w a) : mX d k pc L (.int v :: .int x :: .ref a :: st) w = mX d k (pc + len) L st (wI w a n v) := by
  subst h2
  exact X_st hf rfl (by simp only [mstep]; rw [if_pos ⟨h, hE, h1, h3⟩])
theorem X_bast {d k pc len n a : Nat} {ax : List Nat} {L st : List Value} {w : MW} {x v : Int32} (hf : mFetch k pc = some (.bastore, len, ax)) (h : mTg w a = 51) (hE : mE ≤ a) (h1 : ¬ x < 0) (h2 : x.toNatClampNeg = n) (h3 : n < mLn w a) : mX d k pc L (.int v :: .int x :: .ref a :: st) w = mX d k (pc + len) L st (wI w a n v.toInt8.toInt32) := by
  subst h2
  exact X_st hf rfl (by simp only [mstep]; rw [if_pos ⟨h, hE, h1, h3⟩])
theorem X_aast {d k pc len n a b : Nat} {ax : List Nat} {L st : List Value} {w : MW} {x : Int32} (hf : mFetch k pc = some (.aastore, len, ax)) (h : mTg w a = 52 ∧ mTg w b = 50 ∧ mE ≤ b ∨ mTg w a = 53 ∧ mTg w b = 4 ∨ mTg w a = 54 ∧ mTg w b = 11) (h1 : ¬ x < 0) (h2 : x.toNatClampNeg = n) (h3 : n < mLn w a) : mX d k pc L (.ref b :: .int x :: .ref a :: st) w = mX d k (pc + len) L st (wR w a n (some b)) := by
  subst h2
  exact X_st hf rfl (by simp only [mstep]; rw [if_pos ⟨h, h1, h3⟩])
theorem X_br {d k pc len t e : Nat} {L L' st st' : List Value} {w : MW} {ins : Instr} {ax : List Nat} {P : Prop} [hP : Decidable P] (hf : mFetch k pc = some (ins, len, ax)) (ha : mAsk ins ax = 0) (hs : mstep ins len ax pc L st w = if P then some (t, L', st', w) else some (e, L', st', w)) : mX d k pc L st w = if P then mX d k t L' st' w else mX d k e L' st' w := by
  by_cases h : P
  · rw [if_pos h] at hs ⊢
    exact X_st hf ha hs
  · rw [if_neg h] at hs ⊢
    exact X_st hf ha hs
theorem X_sw {d k pc len t : Nat} {L st st' : List Value} {w : MW} {ins : Instr} {ax : List Nat} {v v' : Value} (hf : mFetch k pc = some (ins, len, ax)) (ha : mAsk ins ax = 0) (hv : v = v') (hs : mstep ins len ax pc L (v' :: st) w = some (t, L, st', w)) : mX d k pc L (v :: st) w = mX d k t L st' w := by
  subst hv
  exact X_st hf ha hs
theorem mTab_out {α : Type} {lo hi : Int} {ts : List Nat} {x : Int} {f : Nat → α} (h : x < lo ∨ hi < x) : f (mTab lo hi ts x) = f (ts.getD 0 0) := by rw [mTab, if_pos h]
theorem X_istore_n {d k pc len : Nat} {i : Fin 4} {x : Int32} {ax : List Nat} {L L' st : List Value} {w : MW} (hf : mFetch k pc = some (.istore_n i, len, ax)) (hl : i.val < L.length) (hs : mSt L i.val (.int x) = L') : mX d k pc L (.int x :: st) w = mX d k (pc + len) L' st w := by
  subst hs
  exact X_st hf rfl (by simp only [mstep]; rw [if_pos hl])
theorem X_istore {d k pc len : Nat} {i : Nat} {x : Int32} {ax : List Nat} {L L' st : List Value} {w : MW} (hf : mFetch k pc = some (.istore i, len, ax)) (hl : i < L.length) (hs : mSt L i (.int x) = L') : mX d k pc L (.int x :: st) w = mX d k (pc + len) L' st w := by
  subst hs
  exact X_st hf rfl (by simp only [mstep]; rw [if_pos hl])
theorem X_astore_n {d k pc len : Nat} {i : Fin 4} {x : Nat} {ax : List Nat} {L L' st : List Value} {w : MW} (hf : mFetch k pc = some (.astore_n i, len, ax)) (hl : i.val < L.length) (hs : mSt L i.val (.ref x) = L') : mX d k pc L (.ref x :: st) w = mX d k (pc + len) L' st w := by
  subst hs
  exact X_st hf rfl (by simp only [mstep]; rw [if_pos hl])
theorem X_astore {d k pc len : Nat} {i : Nat} {x : Nat} {ax : List Nat} {L L' st : List Value} {w : MW} (hf : mFetch k pc = some (.astore i, len, ax)) (hl : i < L.length) (hs : mSt L i (.ref x) = L') : mX d k pc L (.ref x :: st) w = mX d k (pc + len) L' st w := by
  subst hs
  exact X_st hf rfl (by simp only [mstep]; rw [if_pos hl])
theorem X_lstore_n {d k pc len : Nat} {i : Fin 4} {x : Int64} {ax : List Nat} {L L' st : List Value} {w : MW} (hf : mFetch k pc = some (.lstore_n i, len, ax)) (hl : i.val + 1 < L.length) (hs : mSt2 L i.val (.long x) = L') : mX d k pc L (.long x :: st) w = mX d k (pc + len) L' st w := by
  subst hs
  exact X_st hf rfl (by simp only [mstep]; rw [if_pos hl])
theorem X_lstore {d k pc len : Nat} {i : Nat} {x : Int64} {ax : List Nat} {L L' st : List Value} {w : MW} (hf : mFetch k pc = some (.lstore i, len, ax)) (hl : i + 1 < L.length) (hs : mSt2 L i (.long x) = L') : mX d k pc L (.long x :: st) w = mX d k (pc + len) L' st w := by
  subst hs
  exact X_st hf rfl (by simp only [mstep]; rw [if_pos hl])
theorem X_new {d k pc len ci z i : Nat} {L st : List Value} {w : MW} (hf : mFetch k pc = some (.new i, len, [ci, z])) (hc : ci < 13) : mX d k pc L st w = mX d k (pc + len) L (.ref (mSz w) :: st) (wN w ci 0 (mNf ci)) := by
  refine X_st hf ?_ (by simp only [mstep]; rw [if_pos hc])
  simp only [mAsk, List.getD_cons_zero]
  rw [if_neg (by omega)]
theorem X_dup {d k pc len : Nat} {ax : List Nat} {v : Value} {L st : List Value} {w : MW} (hf : mFetch k pc = some (.dup, len, ax)) (hv : v.category = 1) : mX d k pc L (v :: st) w = mX d k (pc + len) L (v :: v :: st) w :=
  X_st hf rfl (by simp only [mstep]; rw [if_pos hv])
theorem X_dup2 {d k pc len : Nat} {ax : List Nat} {u v : Value} {L st : List Value} {w : MW} (hf : mFetch k pc = some (.dup2, len, ax)) (hu : u.category = 1) (hv : v.category = 1) : mX d k pc L (u :: v :: st) w = mX d k (pc + len) L (u :: v :: u :: v :: st) w :=
  X_st hf rfl (by simp only [mstep]; rw [if_pos ⟨hu, hv⟩])
theorem X_pop {d k pc len : Nat} {ax : List Nat} {v : Value} {L st : List Value} {w : MW} (hf : mFetch k pc = some (.pop, len, ax)) (hv : v.category = 1) : mX d k pc L (v :: st) w = mX d k (pc + len) L st w :=
  X_st hf rfl (by simp only [mstep]; rw [if_pos hv])
theorem X_dconst {d k pc len : Nat} {ax : List Nat} {L st : List Value} {w : MW} (hf : mFetch k pc = some (.dconst 0, len, ax)) : mX d k pc L st w = mX d k (pc + len) L (.double FP.dconst0 :: st) w :=
  X_st hf rfl rfl
theorem X_ireturn {d k pc len c : Nat} {L : List Value} {w : MW} {x : Int32} (hf : mFetch k pc = some (.ireturn, len, [c])) (h : mRk c x = true) : mX d k pc L [.int x] w = some (.inl (some (.int x)), w) :=
  X_ret hf rfl (by simp only [mRet, List.getD_cons_zero]; rw [if_pos h])
