/-! ===== the checks, a method each (5): two callees with long code ===== -/
theorem mCallee_167 : mCallee 167 = true := by
  have h1 : mWd (mCw.getD 167 0) (mCodeW 167) = true := by
    unfold mWd
    rw [Bool.and_eq_true, decide_eq_true_eq]
    refine ⟨?_, by decide +kernel⟩
    set_option maxRecDepth 60000 in exact rfl
  have h2 : (decide (167 < mInf.length) && true && mInitd (mOwn 167) && mNoH (mNm 167) && decide (mMl 167 ≤ 40)) = true := by decide +kernel
  unfold mCallee
  rw [h1]
  exact h2
theorem mCallee_147 : mCallee 147 = true := by
  have h1 : mWd (mCw.getD 147 0) (mCodeW 147) = true := by
    unfold mWd
    rw [Bool.and_eq_true, decide_eq_true_eq]
    refine ⟨?_, by decide +kernel⟩
    set_option maxRecDepth 60000 in exact rfl
  have h2 : (decide (147 < mInf.length) && true && mInitd (mOwn 147) && mNoH (mNm 147) && decide (mMl 147 ≤ 40)) = true := by decide +kernel
  unfold mCallee
  rw [h1]
  exact h2
theorem mk_169_r10 : mRow 169 (18, .invokestatic 231, 3, [167, 2, 0, 0, 1318, 1319]) = true := by
  have h : mRow 169 (18, .invokestatic 231, 3, [167, 2, 0, 0, 1318, 1319]) = (decide (decode (mCd 169) 18 = .ok (.invokestatic 231, 3)) && ((3 == 3) && (decide ([167, 2, 0, 0, 1318, 1319].getD 0 0 < 1000) && decide ([167, 2, 0, 0, 1318, 1319].getD 2 0 < 2) && (mCallee 167 && mWd 1318 (.methodLink (mOwn 169) 231 (mNm 167)) && mWd 1319 (.static (mNm 167)) && mArgs (mNm 167) 2)))) := rfl
  rw [h, mCallee_167]
  decide +kernel
theorem mk_169_r629 : mRow 169 (1212, .invokevirtual 273, 3, [147, 2, 2, 10, 896, 897, 898]) = true := by
  have h : mRow 169 (1212, .invokevirtual 273, 3, [147, 2, 2, 10, 896, 897, 898]) = (decide (decode (mCd 169) 1212 = .ok (.invokevirtual 273, 3)) && ((3 == 3) && (decide ([147, 2, 2, 10, 896, 897, 898].getD 0 0 < 1000) && decide (2 ≤ [147, 2, 2, 10, 896, 897, 898].getD 2 0) && decide ([147, 2, 2, 10, 896, 897, 898].getD 2 0 < 5) && (mCallee 147 && 147 != 168 && mWd 896 (.methodLink (mOwn 169) 273 (mNm 147)) && mWd 897 (.instanceMethod (mNm 147)) && mWd 898 (.selects (mOwn 147) (mNm 147) (mNm 147)) && mArgs (mNm 147) (2 - 1) && decide (1 ≤ 2) && decide (10 < 13) && decide ((mC 10).1 = mOwn 147))))) := rfl
  rw [h, mCallee_147]
  decide +kernel
theorem mk_169_0 : ((tb_169.drop 0).take 10).all (mRow 169) = true := by decide +kernel
theorem mk_169_1 : ((tb_169.drop 10).take 1).all (mRow 169) = true := by
  have h : (tb_169.drop 10).take 1 = [(18, .invokestatic 231, 3, [167, 2, 0, 0, 1318, 1319])] := by decide +kernel
  rw [h, List.all_cons, mk_169_r10]
  rfl
theorem mk_169_2 : ((tb_169.drop 11).take 50).all (mRow 169) = true := by decide +kernel
theorem mk_169_3 : ((tb_169.drop 61).take 50).all (mRow 169) = true := by decide +kernel
theorem mk_169_4 : ((tb_169.drop 111).take 50).all (mRow 169) = true := by decide +kernel
theorem mk_169_5 : ((tb_169.drop 161).take 50).all (mRow 169) = true := by decide +kernel
theorem mk_169_6 : ((tb_169.drop 211).take 50).all (mRow 169) = true := by decide +kernel
theorem mk_169_7 : ((tb_169.drop 261).take 50).all (mRow 169) = true := by decide +kernel
