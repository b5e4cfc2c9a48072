/-! ===== BLOCKS: by program (wip/p26/blk.py) ===== -/
/-! java/lang/String <init> (Ljava/lang/StringBuilder;)V -/
theorem f_148_0 : mFetch 148 0 = some (.aload_n 0, 1, []) := by decide +kernel
theorem f_148_1 : mFetch 148 1 = some (.aload_n 1, 1, []) := by decide +kernel
theorem f_148_2 : mFetch 148 2 = some (.aconst_null, 1, []) := by decide +kernel
theorem f_148_3 : mFetch 148 3 = some (.invokespecial 489, 3, [154, 3, 5, 0, 1582, 1583]) := by decide +kernel
theorem f_148_6 : mFetch 148 6 = some (.return_, 1, []) := by decide +kernel
theorem b_148_0 {d : Nat} {a0 : Nat} {a1 : Nat} {w : MW} (h0 : mE ≤ a0) : mX (d + 1) 148 0 [.ref a0, .ref a1] [] w = mThen (mK d 154 [.ref a0, .ref a1, .null] w) (fun v w9 => mX (d + 1) 148 6 [mJ, mJ] (v.toList ++ []) w9) := by
  refine Eq.trans (X_st f_148_0 rfl rfl) ?_
  refine Eq.trans (X_st f_148_1 rfl rfl) ?_
  refine Eq.trans (X_st f_148_2 rfl rfl) ?_
  refine Eq.trans (X_call f_148_3 (by decide) rfl rfl rfl rfl rfl rfl (Nat.le_of_ble_eq_true rfl) (Nat.le_of_ble_eq_true rfl) (decide_eq_true h0) (Nat.le_of_ble_eq_true rfl)) ?_
  exact mThen_eq fun v w9 => mX_mask rfl
theorem e_148 {d : Nat} {a0 : Nat} {a1 : Nat} {w : MW} : mK d 148 [.ref a0, .ref a1] w = mX d 148 0 [.ref a0, .ref a1] [] w := rfl
theorem b_148_6 {d : Nat} {w : MW} : mX d 148 6 [mJ, mJ] [] w = some (.inl none, w) := by
  exact X_ret f_148_6 rfl rfl
/-! java/lang/String length ()I -/
theorem f_149_0 : mFetch 149 0 = some (.aload_n 0, 1, []) := by decide +kernel
theorem f_149_1 : mFetch 149 1 = some (.getfield 9, 3, [11, 0, 0, 1619]) := by decide +kernel
theorem f_149_4 : mFetch 149 4 = some (.arraylength, 1, []) := by decide +kernel
theorem f_149_5 : mFetch 149 5 = some (.aload_n 0, 1, []) := by decide +kernel
theorem f_149_6 : mFetch 149 6 = some (.invokevirtual 335, 3, [155, 1, 2, 11, 945, 946, 947]) := by decide +kernel
theorem f_149_9 : mFetch 149 9 = some (.ishr, 1, []) := by decide +kernel
theorem f_149_10 : mFetch 149 10 = some (.ireturn, 1, [0]) := by decide +kernel
theorem b_149_0 {d : Nat} {a0 : Nat} {w : MW} (h0 : mTg w a0 = 11) (h1 : mR w a0 0 = some (gR w a0 0)) (h2 : 50 ≤ mTg w (gR w a0 0) ∧ mTg w (gR w a0 0) < 55) : mX (d + 1) 149 0 [.ref a0] [] w = mThen (mK d 155 [.ref a0] w) (fun v w9 => mX (d + 1) 149 9 [mJ] (v.toList ++ [.int (nI (mLn w (gR w a0 0)))]) w9) := by
  refine Eq.trans (X_st f_149_0 rfl rfl) ?_
  refine Eq.trans (X_getR f_149_1 h0 rfl h1) ?_
  refine Eq.trans (X_st f_149_4 rfl (if_pos h2)) ?_
  refine Eq.trans (X_st f_149_5 rfl rfl) ?_
  refine Eq.trans (X_call f_149_6 (by decide) rfl rfl rfl rfl rfl rfl (Nat.le_of_ble_eq_true rfl) (Nat.le_of_ble_eq_true rfl) (decide_eq_true h0) (Nat.le_of_ble_eq_true rfl)) ?_
  exact mThen_eq fun v w9 => mX_mask rfl
theorem e_149 {d : Nat} {a0 : Nat} {w : MW} : mK d 149 [.ref a0] w = mX d 149 0 [.ref a0] [] w := rfl
theorem b_149_9 {d : Nat} {y0 : Int32} {y1 : Int32} {w : MW} : mX d 149 9 [mJ] [.int y0, .int y1] w = some (.inl (some (.int (y1 >>> (y0 &&& 31)))), w) := by
  refine Eq.trans (X_st f_149_9 rfl rfl) ?_
  exact X_ireturn f_149_10 rfl
/-! java/lang/String charAt (I)C -/
theorem f_150_0 : mFetch 150 0 = some (.aload_n 0, 1, []) := by decide +kernel
theorem f_150_1 : mFetch 150 1 = some (.invokevirtual 492, 3, [156, 1, 2, 11, 955, 956, 957]) := by decide +kernel
theorem f_150_4 : mFetch 150 4 = some (.ifCond .eq 12, 3, [16]) := by decide +kernel
theorem f_150_7 : mFetch 150 7 = some (.aload_n 0, 1, []) := by decide +kernel
theorem f_150_8 : mFetch 150 8 = some (.getfield 9, 3, [11, 0, 0, 1619]) := by decide +kernel
theorem f_150_11 : mFetch 150 11 = some (.iload_n 1, 1, []) := by decide +kernel
theorem f_150_12 : mFetch 150 12 = some (.invokestatic 495, 3, [184, 2, 0, 0, 959, 960]) := by decide +kernel
theorem f_150_15 : mFetch 150 15 = some (.ireturn, 1, [4]) := by decide +kernel
theorem f_150_16 : mFetch 150 16 = some (.aload_n 0, 1, []) := by decide +kernel
theorem f_150_17 : mFetch 150 17 = some (.getfield 9, 3, [11, 0, 0, 1619]) := by decide +kernel
theorem f_150_20 : mFetch 150 20 = some (.iload_n 1, 1, []) := by decide +kernel
theorem b_150_0 {d : Nat} {a0 : Nat} {x1 : Int32} {w : MW} (h0 : mTg w a0 = 11) : mX (d + 1) 150 0 [.ref a0, .int x1] [] w = mThen (mK d 156 [.ref a0] w) (fun v w9 => mX (d + 1) 150 4 [.ref a0, .int x1] (v.toList ++ []) w9) := by
  refine Eq.trans (X_st f_150_0 rfl rfl) ?_
  refine Eq.trans (X_call f_150_1 (by decide) rfl rfl rfl rfl rfl rfl (Nat.le_of_ble_eq_true rfl) (Nat.le_of_ble_eq_true rfl) (decide_eq_true h0) (Nat.le_of_ble_eq_true rfl)) ?_
  exact mThen_eq fun v w9 => mX_mask rfl
theorem e_150 {d : Nat} {a0 : Nat} {x1 : Int32} {w : MW} : mK d 150 [.ref a0, .int x1] w = mX d 150 0 [.ref a0, .int x1] [] w := rfl
theorem b_150_4 {d : Nat} {a0 : Nat} {x1 : Int32} {y0 : Int32} {w : MW} : mX d 150 4 [.ref a0, .int x1] [.int y0] w = (if y0 = nI 0 then mX d 150 16 [.ref a0, .int x1] [] w else mX d 150 7 [.ref a0, .int x1] [] w) := by
  refine Eq.trans (X_br f_150_4 rfl rfl) ?_
  exact mIte_eq (mX_mask rfl) (mX_mask rfl)
theorem b_150_7 {d : Nat} {a0 : Nat} {x1 : Int32} {w : MW} (h0 : mTg w a0 = 11) (h1 : mR w a0 0 = some (gR w a0 0)) : mX (d + 1) 150 7 [.ref a0, .int x1] [] w = mThen (mK d 184 [.ref (gR w a0 0), .int x1] w) (fun v w9 => mX (d + 1) 150 15 [mJ, mJ] (v.toList ++ []) w9) := by
  refine Eq.trans (X_st f_150_7 rfl rfl) ?_
  refine Eq.trans (X_getR f_150_8 h0 rfl h1) ?_
  refine Eq.trans (X_st f_150_11 rfl rfl) ?_
  refine Eq.trans (X_call f_150_12 (by decide) rfl rfl rfl rfl rfl rfl (Nat.le_of_ble_eq_true rfl) (Nat.le_of_ble_eq_true rfl) rfl (Nat.le_of_ble_eq_true rfl)) ?_
  exact mThen_eq fun v w9 => mX_mask rfl
theorem b_150_15 {d : Nat} {y0 : Int32} {w : MW} (h0 : mRk 4 y0 = true) : mX d 150 15 [mJ, mJ] [.int y0] w = some (.inl (some (.int y0)), w) := by
  exact X_ireturn f_150_15 h0
theorem b_150_16 {d : Nat} {a0 : Nat} {x1 : Int32} {w : MW} (h0 : mTg w a0 = 11) (h1 : mR w a0 0 = some (gR w a0 0)) : mX d 150 16 [.ref a0, .int x1] [] w = mX d 150 21 [mJ, mJ] [.int x1, .ref (gR w a0 0)] w := by
  refine Eq.trans (X_st f_150_16 rfl rfl) ?_
  refine Eq.trans (X_getR f_150_17 h0 rfl h1) ?_
  refine Eq.trans (X_st f_150_20 rfl rfl) ?_
  exact mX_mask rfl
/-! java/lang/String indexOf (I)I -/
theorem f_151_0 : mFetch 151 0 = some (.aload_n 0, 1, []) := by decide +kernel
theorem f_151_1 : mFetch 151 1 = some (.iload_n 1, 1, []) := by decide +kernel
theorem f_151_2 : mFetch 151 2 = some (.iconst 0, 1, []) := by decide +kernel
theorem f_151_3 : mFetch 151 3 = some (.invokevirtual 633, 3, [152, 3, 2, 11, 1114, 1115, 1116]) := by decide +kernel
theorem f_151_6 : mFetch 151 6 = some (.ireturn, 1, [0]) := by decide +kernel
theorem b_151_0 {d : Nat} {a0 : Nat} {x1 : Int32} {w : MW} (h0 : mTg w a0 = 11) : mX (d + 1) 151 0 [.ref a0, .int x1] [] w = mThen (mK d 152 [.ref a0, .int x1, .int (nI 0)] w) (fun v w9 => mX (d + 1) 151 6 [mJ, mJ] (v.toList ++ []) w9) := by
  refine Eq.trans (X_st f_151_0 rfl rfl) ?_
  refine Eq.trans (X_st f_151_1 rfl rfl) ?_
  refine Eq.trans (X_iconst f_151_2 kc_i_0) ?_
  refine Eq.trans (X_call f_151_3 (by decide) rfl rfl rfl rfl rfl rfl (Nat.le_of_ble_eq_true rfl) (Nat.le_of_ble_eq_true rfl) (decide_eq_true h0) (Nat.le_of_ble_eq_true rfl)) ?_
  exact mThen_eq fun v w9 => mX_mask rfl
theorem e_151 {d : Nat} {a0 : Nat} {x1 : Int32} {w : MW} : mK d 151 [.ref a0, .int x1] w = mX d 151 0 [.ref a0, .int x1] [] w := rfl
theorem b_151_6 {d : Nat} {y0 : Int32} {w : MW} : mX d 151 6 [mJ, mJ] [.int y0] w = some (.inl (some (.int y0)), w) := by
  exact X_ireturn f_151_6 rfl
/-! java/lang/String indexOf (II)I -/
theorem f_152_0 : mFetch 152 0 = some (.aload_n 0, 1, []) := by decide +kernel
theorem f_152_1 : mFetch 152 1 = some (.invokevirtual 492, 3, [156, 1, 2, 11, 955, 956, 957]) := by decide +kernel
theorem f_152_4 : mFetch 152 4 = some (.ifCond .eq 19, 3, [23]) := by decide +kernel
theorem f_152_7 : mFetch 152 7 = some (.aload_n 0, 1, []) := by decide +kernel
theorem f_152_8 : mFetch 152 8 = some (.getfield 9, 3, [11, 0, 0, 1619]) := by decide +kernel
theorem f_152_11 : mFetch 152 11 = some (.iload_n 1, 1, []) := by decide +kernel
theorem f_152_12 : mFetch 152 12 = some (.iload_n 2, 1, []) := by decide +kernel
theorem f_152_13 : mFetch 152 13 = some (.aload_n 0, 1, []) := by decide +kernel
theorem f_152_14 : mFetch 152 14 = some (.invokevirtual 505, 3, [149, 1, 2, 11, 1118, 942, 943]) := by decide +kernel
theorem f_152_17 : mFetch 152 17 = some (.invokestatic 637, 3, [186, 4, 0, 0, 1119, 1120]) := by decide +kernel
theorem f_152_20 : mFetch 152 20 = some (.goto 16, 3, [36]) := by decide +kernel
theorem f_152_23 : mFetch 152 23 = some (.aload_n 0, 1, []) := by decide +kernel
theorem f_152_24 : mFetch 152 24 = some (.getfield 9, 3, [11, 0, 0, 1619]) := by decide +kernel
theorem f_152_27 : mFetch 152 27 = some (.iload_n 1, 1, []) := by decide +kernel
theorem f_152_28 : mFetch 152 28 = some (.iload_n 2, 1, []) := by decide +kernel
theorem f_152_29 : mFetch 152 29 = some (.aload_n 0, 1, []) := by decide +kernel
theorem f_152_30 : mFetch 152 30 = some (.invokevirtual 505, 3, [149, 1, 2, 11, 1118, 942, 943]) := by decide +kernel
theorem f_152_36 : mFetch 152 36 = some (.ireturn, 1, [0]) := by decide +kernel
theorem b_152_0 {d : Nat} {a0 : Nat} {x1 : Int32} {x2 : Int32} {w : MW} (h0 : mTg w a0 = 11) : mX (d + 1) 152 0 [.ref a0, .int x1, .int x2] [] w = mThen (mK d 156 [.ref a0] w) (fun v w9 => mX (d + 1) 152 4 [.ref a0, .int x1, .int x2] (v.toList ++ []) w9) := by
  refine Eq.trans (X_st f_152_0 rfl rfl) ?_
  refine Eq.trans (X_call f_152_1 (by decide) rfl rfl rfl rfl rfl rfl (Nat.le_of_ble_eq_true rfl) (Nat.le_of_ble_eq_true rfl) (decide_eq_true h0) (Nat.le_of_ble_eq_true rfl)) ?_
  exact mThen_eq fun v w9 => mX_mask rfl
theorem e_152 {d : Nat} {a0 : Nat} {x1 : Int32} {x2 : Int32} {w : MW} : mK d 152 [.ref a0, .int x1, .int x2] w = mX d 152 0 [.ref a0, .int x1, .int x2] [] w := rfl
theorem b_152_4 {d : Nat} {a0 : Nat} {x1 : Int32} {x2 : Int32} {y0 : Int32} {w : MW} : mX d 152 4 [.ref a0, .int x1, .int x2] [.int y0] w = (if y0 = nI 0 then mX d 152 23 [.ref a0, .int x1, .int x2] [] w else mX d 152 7 [.ref a0, .int x1, .int x2] [] w) := by
  refine Eq.trans (X_br f_152_4 rfl rfl) ?_
  exact mIte_eq (mX_mask rfl) (mX_mask rfl)
theorem b_152_7 {d : Nat} {a0 : Nat} {x1 : Int32} {x2 : Int32} {w : MW} (h0 : mTg w a0 = 11) (h1 : mR w a0 0 = some (gR w a0 0)) : mX (d + 1) 152 7 [.ref a0, .int x1, .int x2] [] w = mThen (mK d 149 [.ref a0] w) (fun v w9 => mX (d + 1) 152 17 [mJ, mJ, mJ] (v.toList ++ [.int x2, .int x1, .ref (gR w a0 0)]) w9) := by
  refine Eq.trans (X_st f_152_7 rfl rfl) ?_
  refine Eq.trans (X_getR f_152_8 h0 rfl h1) ?_
  refine Eq.trans (X_st f_152_11 rfl rfl) ?_
  refine Eq.trans (X_st f_152_12 rfl rfl) ?_
  refine Eq.trans (X_st f_152_13 rfl rfl) ?_
  refine Eq.trans (X_call f_152_14 (by decide) rfl rfl rfl rfl rfl rfl (Nat.le_of_ble_eq_true rfl) (Nat.le_of_ble_eq_true rfl) (decide_eq_true h0) (Nat.le_of_ble_eq_true rfl)) ?_
  exact mThen_eq fun v w9 => mX_mask rfl
theorem b_152_17 {d : Nat} {y0 : Int32} {y1 : Int32} {y2 : Int32} {b3 : Nat} {w : MW} : mX (d + 1) 152 17 [mJ, mJ, mJ] [.int y0, .int y1, .int y2, .ref b3] w = mThen (mK d 186 [.ref b3, .int y2, .int y1, .int y0] w) (fun v w9 => mX (d + 1) 152 20 [mJ, mJ, mJ] (v.toList ++ []) w9) := by
  refine Eq.trans (X_call f_152_17 (by decide) rfl rfl rfl rfl rfl rfl (Nat.le_of_ble_eq_true rfl) (Nat.le_of_ble_eq_true rfl) rfl (Nat.le_of_ble_eq_true rfl)) ?_
  exact mThen_eq fun v w9 => mX_mask rfl
theorem b_152_20 {d : Nat} {y0 : Int32} {w : MW} : mX d 152 20 [mJ, mJ, mJ] [.int y0] w = some (.inl (some (.int y0)), w) := by
  refine Eq.trans (X_st f_152_20 rfl rfl) ?_
  exact X_ireturn f_152_36 rfl
theorem b_152_23 {d : Nat} {a0 : Nat} {x1 : Int32} {x2 : Int32} {w : MW} (h0 : mTg w a0 = 11) (h1 : mR w a0 0 = some (gR w a0 0)) : mX (d + 1) 152 23 [.ref a0, .int x1, .int x2] [] w = mThen (mK d 149 [.ref a0] w) (fun v w9 => mX (d + 1) 152 33 [mJ, mJ, mJ] (v.toList ++ [.int x2, .int x1, .ref (gR w a0 0)]) w9) := by
  refine Eq.trans (X_st f_152_23 rfl rfl) ?_
  refine Eq.trans (X_getR f_152_24 h0 rfl h1) ?_
  refine Eq.trans (X_st f_152_27 rfl rfl) ?_
  refine Eq.trans (X_st f_152_28 rfl rfl) ?_
  refine Eq.trans (X_st f_152_29 rfl rfl) ?_
  refine Eq.trans (X_call f_152_30 (by decide) rfl rfl rfl rfl rfl rfl (Nat.le_of_ble_eq_true rfl) (Nat.le_of_ble_eq_true rfl) (decide_eq_true h0) (Nat.le_of_ble_eq_true rfl)) ?_
  exact mThen_eq fun v w9 => mX_mask rfl
/-! java/lang/String getBytes ([BIB)V -/
theorem f_153_0 : mFetch 153 0 = some (.aload_n 0, 1, []) := by decide +kernel
theorem f_153_1 : mFetch 153 1 = some (.invokevirtual 335, 3, [155, 1, 2, 11, 945, 946, 947]) := by decide +kernel
theorem f_153_4 : mFetch 153 4 = some (.iload_n 3, 1, []) := by decide +kernel
theorem f_153_5 : mFetch 153 5 = some (.if_icmp .ne 23, 3, [28]) := by decide +kernel
theorem f_153_8 : mFetch 153 8 = some (.aload_n 0, 1, []) := by decide +kernel
theorem f_153_9 : mFetch 153 9 = some (.getfield 9, 3, [11, 0, 0, 1619]) := by decide +kernel
theorem f_153_12 : mFetch 153 12 = some (.iconst 0, 1, []) := by decide +kernel
theorem f_153_13 : mFetch 153 13 = some (.aload_n 1, 1, []) := by decide +kernel
theorem f_153_14 : mFetch 153 14 = some (.iload_n 2, 1, []) := by decide +kernel
theorem f_153_15 : mFetch 153 15 = some (.iload_n 3, 1, []) := by decide +kernel
theorem f_153_16 : mFetch 153 16 = some (.ishl, 1, []) := by decide +kernel
theorem f_153_17 : mFetch 153 17 = some (.aload_n 0, 1, []) := by decide +kernel
theorem f_153_18 : mFetch 153 18 = some (.getfield 9, 3, [11, 0, 0, 1619]) := by decide +kernel
theorem f_153_21 : mFetch 153 21 = some (.arraylength, 1, []) := by decide +kernel
theorem f_153_22 : mFetch 153 22 = some (.invokestatic 212, 3, [1000, 1493]) := by decide +kernel
theorem f_153_25 : mFetch 153 25 = some (.goto 18, 3, [43]) := by decide +kernel
theorem f_153_28 : mFetch 153 28 = some (.aload_n 0, 1, []) := by decide +kernel
theorem f_153_29 : mFetch 153 29 = some (.getfield 9, 3, [11, 0, 0, 1619]) := by decide +kernel
theorem f_153_32 : mFetch 153 32 = some (.iconst 0, 1, []) := by decide +kernel
theorem f_153_33 : mFetch 153 33 = some (.aload_n 1, 1, []) := by decide +kernel
theorem f_153_34 : mFetch 153 34 = some (.iload_n 2, 1, []) := by decide +kernel
theorem f_153_35 : mFetch 153 35 = some (.aload_n 0, 1, []) := by decide +kernel
theorem f_153_36 : mFetch 153 36 = some (.getfield 9, 3, [11, 0, 0, 1619]) := by decide +kernel
theorem f_153_39 : mFetch 153 39 = some (.arraylength, 1, []) := by decide +kernel
theorem f_153_43 : mFetch 153 43 = some (.return_, 1, []) := by decide +kernel
theorem b_153_0 {d : Nat} {a0 : Nat} {a1 : Nat} {x2 : Int32} {x3 : Int32} {w : MW} (h0 : mTg w a0 = 11) : mX (d + 1) 153 0 [.ref a0, .ref a1, .int x2, .int x3] [] w = mThen (mK d 155 [.ref a0] w) (fun v w9 => mX (d + 1) 153 4 [.ref a0, .ref a1, .int x2, .int x3] (v.toList ++ []) w9) := by
  refine Eq.trans (X_st f_153_0 rfl rfl) ?_
  refine Eq.trans (X_call f_153_1 (by decide) rfl rfl rfl rfl rfl rfl (Nat.le_of_ble_eq_true rfl) (Nat.le_of_ble_eq_true rfl) (decide_eq_true h0) (Nat.le_of_ble_eq_true rfl)) ?_
  exact mThen_eq fun v w9 => mX_mask rfl
theorem e_153 {d : Nat} {a0 : Nat} {a1 : Nat} {x2 : Int32} {x3 : Int32} {w : MW} : mK d 153 [.ref a0, .ref a1, .int x2, .int x3] w = mX d 153 0 [.ref a0, .ref a1, .int x2, .int x3] [] w := rfl
theorem b_153_4 {d : Nat} {a0 : Nat} {a1 : Nat} {x2 : Int32} {x3 : Int32} {y0 : Int32} {w : MW} : mX d 153 4 [.ref a0, .ref a1, .int x2, .int x3] [.int y0] w = (if ¬ y0 = x3 then mX d 153 28 [.ref a0, .ref a1, .int x2, mJ] [] w else mX d 153 8 [.ref a0, .ref a1, .int x2, .int x3] [] w) := by
  refine Eq.trans (X_st f_153_4 rfl rfl) ?_
  refine Eq.trans (X_br f_153_5 rfl rfl) ?_
  exact mIte_eq (mX_mask rfl) (mX_mask rfl)
theorem b_153_8 {d : Nat} {a0 : Nat} {a1 : Nat} {x2 : Int32} {x3 : Int32} {w : MW} (h0 : mTg w a0 = 11) (h1 : mR w a0 0 = some (gR w a0 0)) (h2 : 50 ≤ mTg w (gR w a0 0) ∧ mTg w (gR w a0 0) < 55) (h3 : (mTg w (gR w a0 0) = 50 ∧ mTg w a1 = 50 ∨ mTg w (gR w a0 0) = 51 ∧ mTg w a1 = 51) ∧ mE ≤ a1 ∧ ¬ (nI 0) < 0 ∧ ¬ (x2 <<< (x3 &&& 31)) < 0 ∧ ¬ (nI (mLn w (gR w a0 0))) < 0 ∧ (nI 0).toNatClampNeg + (nI (mLn w (gR w a0 0))).toNatClampNeg ≤ mLn w (gR w a0 0) ∧ (x2 <<< (x3 &&& 31)).toNatClampNeg + (nI (mLn w (gR w a0 0))).toNatClampNeg ≤ mLn w a1 ∧ 0 ≤ 4) : mX d 153 8 [.ref a0, .ref a1, .int x2, .int x3] [] w = mX d 153 25 [mJ, mJ, mJ, mJ] [] (wC w (gR w a0 0) (nI 0).toNatClampNeg a1 (x2 <<< (x3 &&& 31)).toNatClampNeg (nI (mLn w (gR w a0 0))).toNatClampNeg) := by
  refine Eq.trans (X_st f_153_8 rfl rfl) ?_
  refine Eq.trans (X_getR f_153_9 h0 rfl h1) ?_
  refine Eq.trans (X_iconst f_153_12 kc_i_0) ?_
  refine Eq.trans (X_st f_153_13 rfl rfl) ?_
  refine Eq.trans (X_st f_153_14 rfl rfl) ?_
  refine Eq.trans (X_st f_153_15 rfl rfl) ?_
  refine Eq.trans (X_st f_153_16 rfl rfl) ?_
  refine Eq.trans (X_st f_153_17 rfl rfl) ?_
  refine Eq.trans (X_getR f_153_18 h0 rfl h1) ?_
  refine Eq.trans (X_st f_153_21 rfl (if_pos h2)) ?_
  refine Eq.trans (X_st f_153_22 rfl (if_pos h3)) ?_
  exact mX_mask rfl
theorem b_153_25 {d : Nat} {w : MW} : mX d 153 25 [mJ, mJ, mJ, mJ] [] w = some (.inl none, w) := by
  refine Eq.trans (X_st f_153_25 rfl rfl) ?_
  exact X_ret f_153_43 rfl rfl
theorem b_153_28 {d : Nat} {a0 : Nat} {a1 : Nat} {x2 : Int32} {w : MW} (h0 : mTg w a0 = 11) (h1 : mR w a0 0 = some (gR w a0 0)) (h2 : 50 ≤ mTg w (gR w a0 0) ∧ mTg w (gR w a0 0) < 55) : mX d 153 28 [.ref a0, .ref a1, .int x2, mJ] [] w = mX d 153 40 [mJ, mJ, mJ, mJ] [.int (nI (mLn w (gR w a0 0))), .int x2, .ref a1, .int (nI 0), .ref (gR w a0 0)] w := by
  refine Eq.trans (X_st f_153_28 rfl rfl) ?_
  refine Eq.trans (X_getR f_153_29 h0 rfl h1) ?_
  refine Eq.trans (X_iconst f_153_32 kc_i_0) ?_
  refine Eq.trans (X_st f_153_33 rfl rfl) ?_
  refine Eq.trans (X_st f_153_34 rfl rfl) ?_
  refine Eq.trans (X_st f_153_35 rfl rfl) ?_
  refine Eq.trans (X_getR f_153_36 h0 rfl h1) ?_
  refine Eq.trans (X_st f_153_39 rfl (if_pos h2)) ?_
  exact mX_mask rfl
/-! java/lang/String <init> (Ljava/lang/AbstractStringBuilder;Ljava/lang/Void;)V -/
theorem f_154_0 : mFetch 154 0 = some (.aload_n 0, 1, []) := by decide +kernel
theorem f_154_1 : mFetch 154 1 = some (.invokespecial 1, 3, [1002, 1585]) := by decide +kernel
theorem f_154_4 : mFetch 154 4 = some (.aload_n 1, 1, []) := by decide +kernel
theorem f_154_5 : mFetch 154 5 = some (.invokevirtual 552, 3, [176, 1, 4, 12, 1586, 1587, 1589, 1588, 0, 0]) := by decide +kernel
theorem f_154_8 : mFetch 154 8 = some (.astore_n 3, 1, []) := by decide +kernel
theorem f_154_9 : mFetch 154 9 = some (.aload_n 1, 1, []) := by decide +kernel
theorem f_154_10 : mFetch 154 10 = some (.invokevirtual 549, 3, [162, 1, 4, 12, 1591, 1595, 1594, 1593, 1592, 1598]) := by decide +kernel
theorem f_154_13 : mFetch 154 13 = some (.istore 4, 2, []) := by decide +kernel
theorem f_154_15 : mFetch 154 15 = some (.aload_n 1, 1, []) := by decide +kernel
theorem f_154_16 : mFetch 154 16 = some (.invokevirtual 1047, 3, [177, 1, 4, 12, 1599, 1442, 1444, 1443, 0, 0]) := by decide +kernel
theorem f_154_19 : mFetch 154 19 = some (.ifCond .eq 22, 3, [41]) := by decide +kernel
theorem f_154_22 : mFetch 154 22 = some (.aload_n 0, 1, []) := by decide +kernel
theorem f_154_23 : mFetch 154 23 = some (.iconst 0, 1, []) := by decide +kernel
theorem f_154_24 : mFetch 154 24 = some (.putfield 15, 3, [11, 1, 0, 1620]) := by decide +kernel
theorem f_154_27 : mFetch 154 27 = some (.aload_n 0, 1, []) := by decide +kernel
theorem f_154_28 : mFetch 154 28 = some (.aload_n 3, 1, []) := by decide +kernel
theorem f_154_29 : mFetch 154 29 = some (.iconst 0, 1, []) := by decide +kernel
theorem f_154_30 : mFetch 154 30 = some (.iload 4, 2, []) := by decide +kernel
theorem f_154_32 : mFetch 154 32 = some (.invokestatic 54, 3, [191, 3, 0, 0, 1600, 1601]) := by decide +kernel
theorem f_154_35 : mFetch 154 35 = some (.putfield 9, 3, [11, 0, 0, 1619]) := by decide +kernel
theorem f_154_38 : mFetch 154 38 = some (.goto 59, 3, [97]) := by decide +kernel
theorem f_154_41 : mFetch 154 41 = some (.getstatic 38, 3, [0, 949]) := by decide +kernel
theorem f_154_44 : mFetch 154 44 = some (.ifCond .eq 35, 3, [79]) := by decide +kernel
theorem f_154_47 : mFetch 154 47 = some (.aload_n 1, 1, []) := by decide +kernel
theorem f_154_48 : mFetch 154 48 = some (.getfield 1048, 3, [12, 2, 0, 1563]) := by decide +kernel
theorem f_154_51 : mFetch 154 51 = some (.ifCond .eq 28, 3, [79]) := by decide +kernel
theorem f_154_54 : mFetch 154 54 = some (.aload_n 0, 1, []) := by decide +kernel
theorem f_154_55 : mFetch 154 55 = some (.aload_n 3, 1, []) := by decide +kernel
theorem f_154_56 : mFetch 154 56 = some (.iconst 0, 1, []) := by decide +kernel
theorem f_154_57 : mFetch 154 57 = some (.iload 4, 2, []) := by decide +kernel
theorem f_154_79 : mFetch 154 79 = some (.aload_n 0, 1, []) := by decide +kernel
theorem f_154_80 : mFetch 154 80 = some (.iconst 1, 1, []) := by decide +kernel
theorem f_154_81 : mFetch 154 81 = some (.putfield 15, 3, [11, 1, 0, 1620]) := by decide +kernel
theorem f_154_84 : mFetch 154 84 = some (.aload_n 0, 1, []) := by decide +kernel
theorem f_154_85 : mFetch 154 85 = some (.aload_n 3, 1, []) := by decide +kernel
theorem f_154_86 : mFetch 154 86 = some (.iconst 0, 1, []) := by decide +kernel
theorem f_154_87 : mFetch 154 87 = some (.iload 4, 2, []) := by decide +kernel
theorem f_154_89 : mFetch 154 89 = some (.iconst 1, 1, []) := by decide +kernel
theorem f_154_90 : mFetch 154 90 = some (.ishl, 1, []) := by decide +kernel
theorem f_154_91 : mFetch 154 91 = some (.invokestatic 54, 3, [191, 3, 0, 0, 1600, 1601]) := by decide +kernel
theorem f_154_94 : mFetch 154 94 = some (.putfield 9, 3, [11, 0, 0, 1619]) := by decide +kernel
theorem f_154_97 : mFetch 154 97 = some (.return_, 1, []) := by decide +kernel
theorem b_154_0 {d : Nat} {a0 : Nat} {a1 : Nat} {v2 : Value} {w : MW} (h0 : mE ≤ a0) (h1 : mTg w a1 = 12) : mX (d + 1) 154 0 [.ref a0, .ref a1, v2, mJ, mJ] [] w = mThen (mK d 176 [.ref a1] w) (fun v w9 => mX (d + 1) 154 8 [.ref a0, .ref a1, mJ, mJ, mJ] (v.toList ++ []) w9) := by
  refine Eq.trans (X_st f_154_0 rfl rfl) ?_
  refine Eq.trans (X_st f_154_1 rfl (if_pos ⟨h0, Nat.le_of_ble_eq_true rfl⟩)) ?_
  refine Eq.trans (X_st f_154_4 rfl rfl) ?_
  refine Eq.trans (X_call f_154_5 (by decide) rfl rfl rfl rfl rfl rfl (Nat.le_of_ble_eq_true rfl) (Nat.le_of_ble_eq_true rfl) (decide_eq_true h1) (Nat.le_of_ble_eq_true rfl)) ?_
  exact mThen_eq fun v w9 => mX_mask rfl
theorem e_154 {d : Nat} {a0 : Nat} {a1 : Nat} {v2 : Value} (qv2 : v2.category = 1) {w : MW} : mK d 154 [.ref a0, .ref a1, v2] w = mX d 154 0 [.ref a0, .ref a1, v2, mJ, mJ] [] w := by simp only [mK, mEnt, mSpread, qv2]; rfl
theorem b_154_8 {d : Nat} {a0 : Nat} {a1 : Nat} {b0 : Nat} {w : MW} (h0 : mTg w a1 = 12) : mX (d + 1) 154 8 [.ref a0, .ref a1, mJ, mJ, mJ] [.ref b0] w = mThen (mK d 162 [.ref a1] w) (fun v w9 => mX (d + 1) 154 13 [.ref a0, .ref a1, mJ, .ref b0, mJ] (v.toList ++ []) w9) := by
  refine Eq.trans (X_astore_n (L' := [.ref a0, .ref a1, mJ, .ref b0, mJ]) f_154_8 (Nat.le_of_ble_eq_true rfl) rfl) ?_
  refine Eq.trans (X_st f_154_9 rfl rfl) ?_
  refine Eq.trans (X_call f_154_10 (by decide) rfl rfl rfl rfl rfl rfl (Nat.le_of_ble_eq_true rfl) (Nat.le_of_ble_eq_true rfl) (decide_eq_true h0) (Nat.le_of_ble_eq_true rfl)) ?_
  exact mThen_eq fun v w9 => mX_mask rfl
theorem b_154_13 {d : Nat} {a0 : Nat} {a1 : Nat} {a3 : Nat} {y0 : Int32} {w : MW} (h0 : mTg w a1 = 12) : mX (d + 1) 154 13 [.ref a0, .ref a1, mJ, .ref a3, mJ] [.int y0] w = mThen (mK d 177 [.ref a1] w) (fun v w9 => mX (d + 1) 154 19 [.ref a0, .ref a1, mJ, .ref a3, .int y0] (v.toList ++ []) w9) := by
  refine Eq.trans (X_istore (L' := [.ref a0, .ref a1, mJ, .ref a3, .int y0]) f_154_13 (Nat.le_of_ble_eq_true rfl) rfl) ?_
  refine Eq.trans (X_st f_154_15 rfl rfl) ?_
  refine Eq.trans (X_call f_154_16 (by decide) rfl rfl rfl rfl rfl rfl (Nat.le_of_ble_eq_true rfl) (Nat.le_of_ble_eq_true rfl) (decide_eq_true h0) (Nat.le_of_ble_eq_true rfl)) ?_
  exact mThen_eq fun v w9 => mX_mask rfl
theorem b_154_19 {d : Nat} {a0 : Nat} {a1 : Nat} {a3 : Nat} {x4 : Int32} {y0 : Int32} {w : MW} : mX d 154 19 [.ref a0, .ref a1, mJ, .ref a3, .int x4] [.int y0] w = (if y0 = nI 0 then mX d 154 41 [.ref a0, .ref a1, mJ, .ref a3, .int x4] [] w else mX d 154 22 [.ref a0, mJ, mJ, .ref a3, .int x4] [] w) := by
  refine Eq.trans (X_br f_154_19 rfl rfl) ?_
  exact mIte_eq (mX_mask rfl) (mX_mask rfl)
theorem b_154_22 {d : Nat} {a0 : Nat} {a3 : Nat} {x4 : Int32} {w : MW} (h0 : mTg w a0 = 11) (h1 : mE ≤ a0) : mX d 154 22 [.ref a0, mJ, mJ, .ref a3, .int x4] [] w = mX d 154 27 [.ref a0, mJ, mJ, .ref a3, .int x4] [] (wI w a0 1 (nI 0)) := by
  refine Eq.trans (X_st f_154_22 rfl rfl) ?_
  refine Eq.trans (X_iconst f_154_23 kc_i_0) ?_
  refine Eq.trans (X_putI f_154_24 h0 h1 rfl rfl) ?_
  exact mX_mask rfl
theorem b_154_27 {d : Nat} {a0 : Nat} {a3 : Nat} {x4 : Int32} {w : MW} : mX (d + 1) 154 27 [.ref a0, mJ, mJ, .ref a3, .int x4] [] w = mThen (mK d 191 [.ref a3, .int (nI 0), .int x4] w) (fun v w9 => mX (d + 1) 154 35 [mJ, mJ, mJ, mJ, mJ] (v.toList ++ [.ref a0]) w9) := by
  refine Eq.trans (X_st f_154_27 rfl rfl) ?_
  refine Eq.trans (X_st f_154_28 rfl rfl) ?_
  refine Eq.trans (X_iconst f_154_29 kc_i_0) ?_
  refine Eq.trans (X_st f_154_30 rfl rfl) ?_
  refine Eq.trans (X_call f_154_32 (by decide) rfl rfl rfl rfl rfl rfl (Nat.le_of_ble_eq_true rfl) (Nat.le_of_ble_eq_true rfl) rfl (Nat.le_of_ble_eq_true rfl)) ?_
  exact mThen_eq fun v w9 => mX_mask rfl
theorem b_154_35 {d : Nat} {b0 : Nat} {b1 : Nat} {w : MW} (h0 : mTg w b1 = 11) (h1 : mE ≤ b1) : mX d 154 35 [mJ, mJ, mJ, mJ, mJ] [.ref b0, .ref b1] w = mX d 154 38 [mJ, mJ, mJ, mJ, mJ] [] (wR w b1 0 (some b0)) := by
  refine Eq.trans (X_putR f_154_35 h0 h1 rfl) ?_
  exact mX_mask rfl
theorem b_154_38 {d : Nat} {w : MW} : mX d 154 38 [mJ, mJ, mJ, mJ, mJ] [] w = mX d 154 97 [mJ, mJ, mJ, mJ, mJ] [] w := by
  refine Eq.trans (X_st f_154_38 rfl rfl) ?_
  exact mX_mask rfl
theorem b_154_41 {d : Nat} {a0 : Nat} {a1 : Nat} {a3 : Nat} {x4 : Int32} {w : MW} : mX d 154 41 [.ref a0, .ref a1, mJ, .ref a3, .int x4] [] w = mX d 154 47 [.ref a0, .ref a1, mJ, .ref a3, .int x4] [] w := by
  refine Eq.trans (X_st f_154_41 rfl rfl) ?_
  refine Eq.trans (X_st f_154_44 rfl rfl) ?_
  exact mX_mask rfl
theorem b_154_47 {d : Nat} {a0 : Nat} {a1 : Nat} {a3 : Nat} {x4 : Int32} {w : MW} (h0 : mTg w a1 = 12) : mX d 154 47 [.ref a0, .ref a1, mJ, .ref a3, .int x4] [] w = (if (mI w a1 2) = nI 0 then mX d 154 79 [.ref a0, mJ, mJ, .ref a3, .int x4] [] w else mX d 154 54 [.ref a0, mJ, mJ, .ref a3, .int x4] [] w) := by
  refine Eq.trans (X_st f_154_47 rfl rfl) ?_
  refine Eq.trans (X_getI f_154_48 h0 rfl) ?_
  refine Eq.trans (X_br f_154_51 rfl rfl) ?_
  exact mIte_eq (mX_mask rfl) (mX_mask rfl)
theorem b_154_54 {d : Nat} {a0 : Nat} {a3 : Nat} {x4 : Int32} {w : MW} : mX d 154 54 [.ref a0, mJ, mJ, .ref a3, .int x4] [] w = mX d 154 59 [mJ, mJ, mJ, mJ, mJ] [.int x4, .int (nI 0), .ref a3, .ref a0] w := by
  refine Eq.trans (X_st f_154_54 rfl rfl) ?_
  refine Eq.trans (X_st f_154_55 rfl rfl) ?_
  refine Eq.trans (X_iconst f_154_56 kc_i_0) ?_
  refine Eq.trans (X_st f_154_57 rfl rfl) ?_
  exact mX_mask rfl
theorem b_154_79 {d : Nat} {a0 : Nat} {a3 : Nat} {x4 : Int32} {w : MW} (h0 : mTg w a0 = 11) (h1 : mE ≤ a0) : mX d 154 79 [.ref a0, mJ, mJ, .ref a3, .int x4] [] w = mX d 154 84 [.ref a0, mJ, mJ, .ref a3, .int x4] [] (wI w a0 1 (nI 1)) := by
  refine Eq.trans (X_st f_154_79 rfl rfl) ?_
  refine Eq.trans (X_iconst f_154_80 kc_i_1) ?_
  refine Eq.trans (X_putI f_154_81 h0 h1 rfl rfl) ?_
  exact mX_mask rfl
theorem b_154_84 {d : Nat} {a0 : Nat} {a3 : Nat} {x4 : Int32} {w : MW} : mX (d + 1) 154 84 [.ref a0, mJ, mJ, .ref a3, .int x4] [] w = mThen (mK d 191 [.ref a3, .int (nI 0), .int (x4 <<< ((nI 1) &&& 31))] w) (fun v w9 => mX (d + 1) 154 94 [mJ, mJ, mJ, mJ, mJ] (v.toList ++ [.ref a0]) w9) := by
  refine Eq.trans (X_st f_154_84 rfl rfl) ?_
  refine Eq.trans (X_st f_154_85 rfl rfl) ?_
  refine Eq.trans (X_iconst f_154_86 kc_i_0) ?_
  refine Eq.trans (X_st f_154_87 rfl rfl) ?_
  refine Eq.trans (X_iconst f_154_89 kc_i_1) ?_
  refine Eq.trans (X_st f_154_90 rfl rfl) ?_
  refine Eq.trans (X_call f_154_91 (by decide) rfl rfl rfl rfl rfl rfl (Nat.le_of_ble_eq_true rfl) (Nat.le_of_ble_eq_true rfl) rfl (Nat.le_of_ble_eq_true rfl)) ?_
  exact mThen_eq fun v w9 => mX_mask rfl
theorem b_154_94 {d : Nat} {b0 : Nat} {b1 : Nat} {w : MW} (h0 : mTg w b1 = 11) (h1 : mE ≤ b1) : mX d 154 94 [mJ, mJ, mJ, mJ, mJ] [.ref b0, .ref b1] w = mX d 154 97 [mJ, mJ, mJ, mJ, mJ] [] (wR w b1 0 (some b0)) := by
  refine Eq.trans (X_putR f_154_94 h0 h1 rfl) ?_
  exact mX_mask rfl
theorem b_154_97 {d : Nat} {w : MW} : mX d 154 97 [mJ, mJ, mJ, mJ, mJ] [] w = some (.inl none, w) := by
  exact X_ret f_154_97 rfl rfl
/-! java/lang/String coder ()B -/
theorem f_155_0 : mFetch 155 0 = some (.getstatic 38, 3, [0, 949]) := by decide +kernel
theorem f_155_3 : mFetch 155 3 = some (.ifCond .eq 10, 3, [13]) := by decide +kernel
theorem f_155_6 : mFetch 155 6 = some (.aload_n 0, 1, []) := by decide +kernel
theorem f_155_7 : mFetch 155 7 = some (.getfield 15, 3, [11, 1, 0, 1620]) := by decide +kernel
theorem f_155_10 : mFetch 155 10 = some (.goto 4, 3, [14]) := by decide +kernel
theorem f_155_13 : mFetch 155 13 = some (.iconst 1, 1, []) := by decide +kernel
theorem f_155_14 : mFetch 155 14 = some (.ireturn, 1, [3]) := by decide +kernel
theorem b_155_0 {d : Nat} {a0 : Nat} {w : MW} : mX d 155 0 [.ref a0] [] w = mX d 155 6 [.ref a0] [] w := by
  refine Eq.trans (X_st f_155_0 rfl rfl) ?_
  refine Eq.trans (X_st f_155_3 rfl rfl) ?_
  exact mX_mask rfl
theorem e_155 {d : Nat} {a0 : Nat} {w : MW} : mK d 155 [.ref a0] w = mX d 155 0 [.ref a0] [] w := rfl
theorem b_155_6 {d : Nat} {a0 : Nat} {w : MW} (h0 : mTg w a0 = 11) : mX d 155 6 [.ref a0] [] w = mX d 155 14 [mJ] [.int (mI w a0 1)] w := by
  refine Eq.trans (X_st f_155_6 rfl rfl) ?_
  refine Eq.trans (X_getI f_155_7 h0 rfl) ?_
  refine Eq.trans (X_st f_155_10 rfl rfl) ?_
  exact mX_mask rfl
theorem b_155_13 {d : Nat} {w : MW} : mX d 155 13 [mJ] [] w = mX d 155 14 [mJ] [.int (nI 1)] w := by
  refine Eq.trans (X_iconst f_155_13 kc_i_1) ?_
  exact mX_mask rfl
theorem b_155_14 {d : Nat} {y0 : Int32} {w : MW} (h0 : mRk 3 y0 = true) : mX d 155 14 [mJ] [.int y0] w = some (.inl (some (.int y0)), w) := by
  exact X_ireturn f_155_14 h0
/-! java/lang/String isLatin1 ()Z -/
theorem f_156_0 : mFetch 156 0 = some (.getstatic 38, 3, [0, 949]) := by decide +kernel
theorem f_156_3 : mFetch 156 3 = some (.ifCond .eq 14, 3, [17]) := by decide +kernel
theorem f_156_6 : mFetch 156 6 = some (.aload_n 0, 1, []) := by decide +kernel
theorem f_156_7 : mFetch 156 7 = some (.getfield 15, 3, [11, 1, 0, 1620]) := by decide +kernel
theorem f_156_10 : mFetch 156 10 = some (.ifCond .ne 7, 3, [17]) := by decide +kernel
theorem f_156_13 : mFetch 156 13 = some (.iconst 1, 1, []) := by decide +kernel
theorem f_156_14 : mFetch 156 14 = some (.goto 4, 3, [18]) := by decide +kernel
theorem f_156_17 : mFetch 156 17 = some (.iconst 0, 1, []) := by decide +kernel
theorem f_156_18 : mFetch 156 18 = some (.ireturn, 1, [2]) := by decide +kernel
theorem b_156_0 {d : Nat} {a0 : Nat} {w : MW} : mX d 156 0 [.ref a0] [] w = mX d 156 6 [.ref a0] [] w := by
  refine Eq.trans (X_st f_156_0 rfl rfl) ?_
  refine Eq.trans (X_st f_156_3 rfl rfl) ?_
  exact mX_mask rfl
theorem e_156 {d : Nat} {a0 : Nat} {w : MW} : mK d 156 [.ref a0] w = mX d 156 0 [.ref a0] [] w := rfl
theorem b_156_6 {d : Nat} {a0 : Nat} {w : MW} (h0 : mTg w a0 = 11) : mX d 156 6 [.ref a0] [] w = (if ¬ (mI w a0 1) = nI 0 then mX d 156 17 [mJ] [] w else mX d 156 13 [mJ] [] w) := by
  refine Eq.trans (X_st f_156_6 rfl rfl) ?_
  refine Eq.trans (X_getI f_156_7 h0 rfl) ?_
  refine Eq.trans (X_br f_156_10 rfl rfl) ?_
  exact mIte_eq (mX_mask rfl) (mX_mask rfl)
theorem b_156_13 {d : Nat} {w : MW} : mX d 156 13 [mJ] [] w = mX d 156 18 [mJ] [.int (nI 1)] w := by
  refine Eq.trans (X_iconst f_156_13 kc_i_1) ?_
  refine Eq.trans (X_st f_156_14 rfl rfl) ?_
  exact mX_mask rfl
theorem b_156_17 {d : Nat} {w : MW} : mX d 156 17 [mJ] [] w = mX d 156 18 [mJ] [.int (nI 0)] w := by
  refine Eq.trans (X_iconst f_156_17 kc_i_0) ?_
  exact mX_mask rfl
theorem b_156_18 {d : Nat} {y0 : Int32} {w : MW} (h0 : mRk 2 y0 = true) : mX d 156 18 [mJ] [.int y0] w = some (.inl (some (.int y0)), w) := by
  exact X_ireturn f_156_18 h0
/-! java/lang/String checkIndex (II)V -/
theorem f_157_0 : mFetch 157 0 = some (.iload_n 0, 1, []) := by decide +kernel
theorem f_157_1 : mFetch 157 1 = some (.iload_n 1, 1, []) := by decide +kernel
theorem f_157_2 : mFetch 157 2 = some (.getstatic 1053, 3, [1, 965]) := by decide +kernel
theorem f_157_5 : mFetch 157 5 = some (.invokestatic 1059, 3, [194, 3, 0, 0, 967, 968]) := by decide +kernel
theorem f_157_8 : mFetch 157 8 = some (.pop, 1, []) := by decide +kernel
theorem f_157_9 : mFetch 157 9 = some (.return_, 1, []) := by decide +kernel
theorem b_157_0 {d : Nat} {x0 : Int32} {x1 : Int32} {w : MW} : mX (d + 1) 157 0 [.int x0, .int x1] [] w = mThen (mK d 194 [.int x0, .int x1, .ref 0] w) (fun v w9 => mX (d + 1) 157 8 [mJ, mJ] (v.toList ++ []) w9) := by
  refine Eq.trans (X_st f_157_0 rfl rfl) ?_
  refine Eq.trans (X_st f_157_1 rfl rfl) ?_
  refine Eq.trans (X_st f_157_2 rfl rfl) ?_
  refine Eq.trans (X_call f_157_5 (by decide) rfl rfl rfl rfl rfl rfl (Nat.le_of_ble_eq_true rfl) (Nat.le_of_ble_eq_true rfl) rfl (Nat.le_of_ble_eq_true rfl)) ?_
  exact mThen_eq fun v w9 => mX_mask rfl
theorem e_157 {d : Nat} {x0 : Int32} {x1 : Int32} {w : MW} : mK d 157 [.int x0, .int x1] w = mX d 157 0 [.int x0, .int x1] [] w := rfl
theorem b_157_8 {d : Nat} {y0 : Int32} {w : MW} : mX d 157 8 [mJ, mJ] [.int y0] w = some (.inl none, w) := by
  refine Eq.trans (X_pop f_157_8 rfl) ?_
  exact X_ret f_157_9 rfl rfl
/-! java/lang/StringBuilder <init> ()V -/
theorem f_158_0 : mFetch 158 0 = some (.aload_n 0, 1, []) := by decide +kernel
theorem f_158_1 : mFetch 158 1 = some (.bipush 16, 2, []) := by decide +kernel
theorem f_158_3 : mFetch 158 3 = some (.invokespecial 1, 3, [170, 2, 5, 0, 1557, 1558]) := by decide +kernel
theorem f_158_6 : mFetch 158 6 = some (.return_, 1, []) := by decide +kernel
theorem b_158_0 {d : Nat} {a0 : Nat} {w : MW} (h0 : mE ≤ a0) : mX (d + 1) 158 0 [.ref a0] [] w = mThen (mK d 170 [.ref a0, .int (nI 16)] w) (fun v w9 => mX (d + 1) 158 6 [mJ] (v.toList ++ []) w9) := by
  refine Eq.trans (X_st f_158_0 rfl rfl) ?_
  refine Eq.trans (X_bipush f_158_1 kc_b_16) ?_
  refine Eq.trans (X_call f_158_3 (by decide) rfl rfl rfl rfl rfl rfl (Nat.le_of_ble_eq_true rfl) (Nat.le_of_ble_eq_true rfl) (decide_eq_true h0) (Nat.le_of_ble_eq_true rfl)) ?_
  exact mThen_eq fun v w9 => mX_mask rfl
theorem e_158 {d : Nat} {a0 : Nat} {w : MW} : mK d 158 [.ref a0] w = mX d 158 0 [.ref a0] [] w := rfl
theorem b_158_6 {d : Nat} {w : MW} : mX d 158 6 [mJ] [] w = some (.inl none, w) := by
  exact X_ret f_158_6 rfl rfl
/-! java/lang/StringBuilder append (Ljava/lang/String;)Ljava/lang/StringBuilder; -/
theorem f_159_0 : mFetch 159 0 = some (.aload_n 0, 1, []) := by decide +kernel
theorem f_159_1 : mFetch 159 1 = some (.aload_n 1, 1, []) := by decide +kernel
theorem f_159_2 : mFetch 159 2 = some (.invokespecial 29, 3, [174, 2, 7, 12, 1404, 1406, 1405, 1684]) := by decide +kernel
theorem f_159_5 : mFetch 159 5 = some (.pop, 1, []) := by decide +kernel
theorem f_159_6 : mFetch 159 6 = some (.aload_n 0, 1, []) := by decide +kernel
theorem f_159_7 : mFetch 159 7 = some (.areturn, 1, []) := by decide +kernel
theorem b_159_0 {d : Nat} {a0 : Nat} {a1 : Nat} {w : MW} (h0 : mTg w a0 = 12) : mX (d + 1) 159 0 [.ref a0, .ref a1] [] w = mThen (mK d 174 [.ref a0, .ref a1] w) (fun v w9 => mX (d + 1) 159 5 [.ref a0, mJ] (v.toList ++ []) w9) := by
  refine Eq.trans (X_st f_159_0 rfl rfl) ?_
  refine Eq.trans (X_st f_159_1 rfl rfl) ?_
  refine Eq.trans (X_call f_159_2 (by decide) rfl rfl rfl rfl rfl rfl (Nat.le_of_ble_eq_true rfl) (Nat.le_of_ble_eq_true rfl) (decide_eq_true h0) (Nat.le_of_ble_eq_true rfl)) ?_
  exact mThen_eq fun v w9 => mX_mask rfl
theorem e_159 {d : Nat} {a0 : Nat} {a1 : Nat} {w : MW} : mK d 159 [.ref a0, .ref a1] w = mX d 159 0 [.ref a0, .ref a1] [] w := rfl
theorem b_159_5 {d : Nat} {a0 : Nat} {b0 : Nat} {w : MW} : mX d 159 5 [.ref a0, mJ] [.ref b0] w = some (.inl (some (.ref a0)), w) := by
  refine Eq.trans (X_pop f_159_5 rfl) ?_
  refine Eq.trans (X_st f_159_6 rfl rfl) ?_
  exact X_ret f_159_7 rfl rfl
/-! java/lang/StringBuilder append (I)Ljava/lang/StringBuilder; -/
theorem f_160_0 : mFetch 160 0 = some (.aload_n 0, 1, []) := by decide +kernel
theorem f_160_1 : mFetch 160 1 = some (.iload_n 1, 1, []) := by decide +kernel
theorem f_160_2 : mFetch 160 2 = some (.invokespecial 53, 3, [175, 2, 7, 12, 1499, 1500, 1405, 1691]) := by decide +kernel
theorem f_160_5 : mFetch 160 5 = some (.pop, 1, []) := by decide +kernel
theorem f_160_6 : mFetch 160 6 = some (.aload_n 0, 1, []) := by decide +kernel
theorem f_160_7 : mFetch 160 7 = some (.areturn, 1, []) := by decide +kernel
theorem b_160_0 {d : Nat} {a0 : Nat} {x1 : Int32} {w : MW} (h0 : mTg w a0 = 12) : mX (d + 1) 160 0 [.ref a0, .int x1] [] w = mThen (mK d 175 [.ref a0, .int x1] w) (fun v w9 => mX (d + 1) 160 5 [.ref a0, mJ] (v.toList ++ []) w9) := by
  refine Eq.trans (X_st f_160_0 rfl rfl) ?_
  refine Eq.trans (X_st f_160_1 rfl rfl) ?_
  refine Eq.trans (X_call f_160_2 (by decide) rfl rfl rfl rfl rfl rfl (Nat.le_of_ble_eq_true rfl) (Nat.le_of_ble_eq_true rfl) (decide_eq_true h0) (Nat.le_of_ble_eq_true rfl)) ?_
  exact mThen_eq fun v w9 => mX_mask rfl
theorem e_160 {d : Nat} {a0 : Nat} {x1 : Int32} {w : MW} : mK d 160 [.ref a0, .int x1] w = mX d 160 0 [.ref a0, .int x1] [] w := rfl
theorem b_160_5 {d : Nat} {a0 : Nat} {b0 : Nat} {w : MW} : mX d 160 5 [.ref a0, mJ] [.ref b0] w = some (.inl (some (.ref a0)), w) := by
  refine Eq.trans (X_pop f_160_5 rfl) ?_
  refine Eq.trans (X_st f_160_6 rfl rfl) ?_
  exact X_ret f_160_7 rfl rfl
/-! java/lang/StringBuilder toString ()Ljava/lang/String; -/
theorem f_161_0 : mFetch 161 0 = some (.new 18, 3, [11, 1577]) := by decide +kernel
theorem f_161_3 : mFetch 161 3 = some (.dup, 1, []) := by decide +kernel
theorem f_161_4 : mFetch 161 4 = some (.aload_n 0, 1, []) := by decide +kernel
theorem f_161_5 : mFetch 161 5 = some (.invokespecial 137, 3, [148, 2, 5, 0, 1579, 1580]) := by decide +kernel
theorem f_161_8 : mFetch 161 8 = some (.areturn, 1, []) := by decide +kernel
theorem b_161_0 {d : Nat} {a0 : Nat} {w : MW} : mX d 161 0 [.ref a0] [] w = mX d 161 3 [.ref a0] [.ref (mSz w)] (wN w 11 0 (mNf 11)) := by
  refine Eq.trans (X_new f_161_0 (Nat.le_of_ble_eq_true rfl)) ?_
  exact mX_mask rfl
theorem e_161 {d : Nat} {a0 : Nat} {w : MW} : mK d 161 [.ref a0] w = mX d 161 0 [.ref a0] [] w := rfl
theorem b_161_3 {d : Nat} {a0 : Nat} {b0 : Nat} {w : MW} (h0 : mE ≤ b0) : mX (d + 1) 161 3 [.ref a0] [.ref b0] w = mThen (mK d 148 [.ref b0, .ref a0] w) (fun v w9 => mX (d + 1) 161 8 [mJ] (v.toList ++ [.ref b0]) w9) := by
  refine Eq.trans (X_dup f_161_3 rfl) ?_
  refine Eq.trans (X_st f_161_4 rfl rfl) ?_
  refine Eq.trans (X_call f_161_5 (by decide) rfl rfl rfl rfl rfl rfl (Nat.le_of_ble_eq_true rfl) (Nat.le_of_ble_eq_true rfl) (decide_eq_true h0) (Nat.le_of_ble_eq_true rfl)) ?_
  exact mThen_eq fun v w9 => mX_mask rfl
theorem b_161_8 {d : Nat} {b0 : Nat} {w : MW} : mX d 161 8 [mJ] [.ref b0] w = some (.inl (some (.ref b0)), w) := by
  exact X_ret f_161_8 rfl rfl
/-! java/lang/StringBuilder length ()I -/
theorem f_162_0 : mFetch 162 0 = some (.aload_n 0, 1, []) := by decide +kernel
theorem f_162_1 : mFetch 162 1 = some (.invokespecial 343, 3, [171, 1, 7, 12, 1597, 1592, 1405, 1593]) := by decide +kernel
theorem f_162_4 : mFetch 162 4 = some (.ireturn, 1, [0]) := by decide +kernel
theorem b_162_0 {d : Nat} {a0 : Nat} {w : MW} (h0 : mTg w a0 = 12) : mX (d + 1) 162 0 [.ref a0] [] w = mThen (mK d 171 [.ref a0] w) (fun v w9 => mX (d + 1) 162 4 [mJ] (v.toList ++ []) w9) := by
  refine Eq.trans (X_st f_162_0 rfl rfl) ?_
  refine Eq.trans (X_call f_162_1 (by decide) rfl rfl rfl rfl rfl rfl (Nat.le_of_ble_eq_true rfl) (Nat.le_of_ble_eq_true rfl) (decide_eq_true h0) (Nat.le_of_ble_eq_true rfl)) ?_
  exact mThen_eq fun v w9 => mX_mask rfl
theorem e_162 {d : Nat} {a0 : Nat} {w : MW} : mK d 162 [.ref a0] w = mX d 162 0 [.ref a0] [] w := rfl
theorem b_162_4 {d : Nat} {y0 : Int32} {w : MW} : mX d 162 4 [mJ] [.int y0] w = some (.inl (some (.int y0)), w) := by
  exact X_ireturn f_162_4 rfl
/-! BeeTurnpikeLaw below (II)I -/
theorem f_163_0 : mFetch 163 0 = some (.iload_n 0, 1, []) := by decide +kernel
theorem f_163_1 : mFetch 163 1 = some (.ldc 7, 2, [0, 2147483647, 1398]) := by decide +kernel
theorem f_163_3 : mFetch 163 3 = some (.iand, 1, []) := by decide +kernel
theorem f_163_4 : mFetch 163 4 = some (.iload_n 1, 1, []) := by decide +kernel
theorem f_163_5 : mFetch 163 5 = some (.irem, 1, []) := by decide +kernel
theorem f_163_6 : mFetch 163 6 = some (.ireturn, 1, [0]) := by decide +kernel
theorem b_163_0 {d : Nat} {x0 : Int32} {x1 : Int32} {w : MW} (h0 : ¬ x1 = nI 0) : mX d 163 0 [.int x0, .int x1] [] w = some (.inl (some (.int ((x0 &&& (nI 2147483647)) - (x0 &&& (nI 2147483647)) / x1 * x1))), w) := by
  refine Eq.trans (X_st f_163_0 rfl rfl) ?_
  refine Eq.trans (X_st f_163_1 rfl rfl) ?_
  refine Eq.trans (X_st f_163_3 rfl rfl) ?_
  refine Eq.trans (X_st f_163_4 rfl rfl) ?_
  refine Eq.trans (X_irem f_163_5 h0) ?_
  exact X_ireturn f_163_6 rfl
theorem e_163 {d : Nat} {x0 : Int32} {x1 : Int32} {w : MW} : mK d 163 [.int x0, .int x1] w = mX d 163 0 [.int x0, .int x1] [] w := rfl
/-! BeeTurnpikeLaw cell ([II)I -/
theorem f_164_0 : mFetch 164 0 = some (.iload_n 1, 1, []) := by decide +kernel
theorem f_164_1 : mFetch 164 1 = some (.aload_n 0, 1, []) := by decide +kernel
theorem f_164_2 : mFetch 164 2 = some (.arraylength, 1, []) := by decide +kernel
theorem f_164_3 : mFetch 164 3 = some (.if_icmp .ge 9, 3, [12]) := by decide +kernel
theorem f_164_6 : mFetch 164 6 = some (.aload_n 0, 1, []) := by decide +kernel
theorem f_164_7 : mFetch 164 7 = some (.iload_n 1, 1, []) := by decide +kernel
theorem f_164_8 : mFetch 164 8 = some (.iaload, 1, []) := by decide +kernel
theorem f_164_9 : mFetch 164 9 = some (.goto 9, 3, [18]) := by decide +kernel
theorem f_164_12 : mFetch 164 12 = some (.ldc 8, 2, [0, 790386105, 937]) := by decide +kernel
theorem f_164_14 : mFetch 164 14 = some (.iload_n 1, 1, []) := by decide +kernel
theorem f_164_15 : mFetch 164 15 = some (.iconst 3, 1, []) := by decide +kernel
theorem f_164_16 : mFetch 164 16 = some (.iadd, 1, []) := by decide +kernel
theorem f_164_17 : mFetch 164 17 = some (.imul, 1, []) := by decide +kernel
theorem f_164_18 : mFetch 164 18 = some (.ireturn, 1, [0]) := by decide +kernel
theorem b_164_0 {d : Nat} {a0 : Nat} {x1 : Int32} {w : MW} (h0 : 50 ≤ mTg w a0 ∧ mTg w a0 < 55) : mX d 164 0 [.ref a0, .int x1] [] w = (if (nI (mLn w a0)) ≤ x1 then mX d 164 12 [mJ, .int x1] [] w else mX d 164 6 [.ref a0, .int x1] [] w) := by
  refine Eq.trans (X_st f_164_0 rfl rfl) ?_
  refine Eq.trans (X_st f_164_1 rfl rfl) ?_
  refine Eq.trans (X_st f_164_2 rfl (if_pos h0)) ?_
  refine Eq.trans (X_br f_164_3 rfl rfl) ?_
  exact mIte_eq (mX_mask rfl) (mX_mask rfl)
theorem e_164 {d : Nat} {a0 : Nat} {x1 : Int32} {w : MW} : mK d 164 [.ref a0, .int x1] w = mX d 164 0 [.ref a0, .int x1] [] w := rfl
theorem b_164_6 {d : Nat} {a0 : Nat} {x1 : Nat} {w : MW} (h0 : mTg w a0 = 50) (h1 : x1 < 2147483648) (h2 : x1 < mLn w a0) : mX d 164 6 [.ref a0, .int (nI x1)] [] w = mX d 164 18 [mJ, mJ] [.int (mI w a0 x1)] w := by
  refine Eq.trans (X_st f_164_6 rfl rfl) ?_
  refine Eq.trans (X_st f_164_7 rfl rfl) ?_
  refine Eq.trans (X_iald f_164_8 h0 (jnn h1) (jcl h1) h2) ?_
  refine Eq.trans (X_st f_164_9 rfl rfl) ?_
  exact mX_mask rfl
theorem b_164_12 {d : Nat} {x1 : Int32} {w : MW} : mX d 164 12 [mJ, .int x1] [] w = mX d 164 18 [mJ, mJ] [.int ((nI 790386105) * (x1 + (nI 3)))] w := by
  refine Eq.trans (X_st f_164_12 rfl rfl) ?_
  refine Eq.trans (X_st f_164_14 rfl rfl) ?_
  refine Eq.trans (X_iconst f_164_15 kc_i_3) ?_
  refine Eq.trans (X_st f_164_16 rfl rfl) ?_
  refine Eq.trans (X_st f_164_17 rfl rfl) ?_
  exact mX_mask rfl
theorem b_164_18 {d : Nat} {y0 : Int32} {w : MW} : mX d 164 18 [mJ, mJ] [.int y0] w = some (.inl (some (.int y0)), w) := by
  exact X_ireturn f_164_18 rfl
/-! BeeTurnpikeLaw taught (LBeeTurnpike;Ljava/lang/String;)I -/
theorem f_165_0 : mFetch 165 0 = some (.iconst 5, 1, []) := by decide +kernel
theorem f_165_1 : mFetch 165 1 = some (.newarray .int, 2, [50]) := by decide +kernel
theorem f_165_3 : mFetch 165 3 = some (.astore_n 2, 1, []) := by decide +kernel
theorem f_165_4 : mFetch 165 4 = some (.iconst 0, 1, []) := by decide +kernel
theorem f_165_5 : mFetch 165 5 = some (.istore_n 3, 1, []) := by decide +kernel
theorem f_165_6 : mFetch 165 6 = some (.iload_n 3, 1, []) := by decide +kernel
theorem f_165_7 : mFetch 165 7 = some (.aload_n 1, 1, []) := by decide +kernel
theorem f_165_8 : mFetch 165 8 = some (.invokevirtual 9, 3, [149, 1, 2, 11, 941, 942, 943]) := by decide +kernel
theorem f_165_11 : mFetch 165 11 = some (.if_icmp .ge 108, 3, [119]) := by decide +kernel
theorem f_165_14 : mFetch 165 14 = some (.iconst 0, 1, []) := by decide +kernel
theorem f_165_15 : mFetch 165 15 = some (.istore 4, 2, []) := by decide +kernel
theorem f_165_17 : mFetch 165 17 = some (.iload 4, 2, []) := by decide +kernel
theorem f_165_19 : mFetch 165 19 = some (.iconst 5, 1, []) := by decide +kernel
theorem f_165_20 : mFetch 165 20 = some (.if_icmp .ge 73, 3, [93]) := by decide +kernel
theorem f_165_23 : mFetch 165 23 = some (.aload_n 2, 1, []) := by decide +kernel
theorem f_165_24 : mFetch 165 24 = some (.iload 4, 2, []) := by decide +kernel
theorem f_165_26 : mFetch 165 26 = some (.iconst 0, 1, []) := by decide +kernel
theorem f_165_27 : mFetch 165 27 = some (.iastore, 1, []) := by decide +kernel
theorem f_165_28 : mFetch 165 28 = some (.iload_n 3, 1, []) := by decide +kernel
theorem f_165_29 : mFetch 165 29 = some (.iconst 4, 1, []) := by decide +kernel
theorem f_165_30 : mFetch 165 30 = some (.iload 4, 2, []) := by decide +kernel
theorem f_165_32 : mFetch 165 32 = some (.imul, 1, []) := by decide +kernel
theorem f_165_33 : mFetch 165 33 = some (.iadd, 1, []) := by decide +kernel
theorem f_165_34 : mFetch 165 34 = some (.istore 5, 2, []) := by decide +kernel
theorem f_165_36 : mFetch 165 36 = some (.iload 5, 2, []) := by decide +kernel
theorem f_165_38 : mFetch 165 38 = some (.iload_n 3, 1, []) := by decide +kernel
theorem f_165_39 : mFetch 165 39 = some (.iconst 4, 1, []) := by decide +kernel
theorem f_165_40 : mFetch 165 40 = some (.iload 4, 2, []) := by decide +kernel
theorem f_165_42 : mFetch 165 42 = some (.imul, 1, []) := by decide +kernel
theorem f_165_43 : mFetch 165 43 = some (.iadd, 1, []) := by decide +kernel
theorem f_165_44 : mFetch 165 44 = some (.iconst 4, 1, []) := by decide +kernel
theorem f_165_45 : mFetch 165 45 = some (.iadd, 1, []) := by decide +kernel
theorem f_165_46 : mFetch 165 46 = some (.if_icmp .ge 41, 3, [87]) := by decide +kernel
theorem f_165_49 : mFetch 165 49 = some (.aload_n 2, 1, []) := by decide +kernel
theorem f_165_50 : mFetch 165 50 = some (.iload 4, 2, []) := by decide +kernel
theorem f_165_52 : mFetch 165 52 = some (.aload_n 2, 1, []) := by decide +kernel
theorem f_165_53 : mFetch 165 53 = some (.iload 4, 2, []) := by decide +kernel
theorem f_165_55 : mFetch 165 55 = some (.iaload, 1, []) := by decide +kernel
theorem f_165_56 : mFetch 165 56 = some (.bipush 8, 2, []) := by decide +kernel
theorem f_165_58 : mFetch 165 58 = some (.ishl, 1, []) := by decide +kernel
theorem f_165_59 : mFetch 165 59 = some (.iload 5, 2, []) := by decide +kernel
theorem f_165_61 : mFetch 165 61 = some (.aload_n 1, 1, []) := by decide +kernel
theorem f_165_62 : mFetch 165 62 = some (.invokevirtual 9, 3, [149, 1, 2, 11, 941, 942, 943]) := by decide +kernel
theorem f_165_65 : mFetch 165 65 = some (.if_icmp .ge 12, 3, [77]) := by decide +kernel
theorem f_165_68 : mFetch 165 68 = some (.aload_n 1, 1, []) := by decide +kernel
theorem f_165_69 : mFetch 165 69 = some (.iload 5, 2, []) := by decide +kernel
theorem f_165_71 : mFetch 165 71 = some (.invokevirtual 15, 3, [150, 2, 2, 11, 951, 952, 953]) := by decide +kernel
theorem f_165_74 : mFetch 165 74 = some (.goto 5, 3, [79]) := by decide +kernel
theorem f_165_77 : mFetch 165 77 = some (.bipush 32, 2, []) := by decide +kernel
theorem f_165_79 : mFetch 165 79 = some (.ior, 1, []) := by decide +kernel
theorem f_165_80 : mFetch 165 80 = some (.iastore, 1, []) := by decide +kernel
theorem f_165_81 : mFetch 165 81 = some (.iinc 5 1, 3, []) := by decide +kernel
theorem f_165_84 : mFetch 165 84 = some (.goto (-48), 3, [36]) := by decide +kernel
theorem f_165_87 : mFetch 165 87 = some (.iinc 4 1, 3, []) := by decide +kernel
theorem f_165_90 : mFetch 165 90 = some (.goto (-73), 3, [17]) := by decide +kernel
theorem f_165_93 : mFetch 165 93 = some (.aload_n 0, 1, []) := by decide +kernel
theorem f_165_94 : mFetch 165 94 = some (.aload_n 2, 1, []) := by decide +kernel
theorem f_165_95 : mFetch 165 95 = some (.iconst 0, 1, []) := by decide +kernel
theorem f_165_96 : mFetch 165 96 = some (.iaload, 1, []) := by decide +kernel
theorem f_165_97 : mFetch 165 97 = some (.aload_n 2, 1, []) := by decide +kernel
theorem f_165_98 : mFetch 165 98 = some (.iconst 1, 1, []) := by decide +kernel
theorem f_165_99 : mFetch 165 99 = some (.iaload, 1, []) := by decide +kernel
theorem f_165_100 : mFetch 165 100 = some (.aload_n 2, 1, []) := by decide +kernel
theorem f_165_101 : mFetch 165 101 = some (.iconst 2, 1, []) := by decide +kernel
theorem f_165_102 : mFetch 165 102 = some (.iaload, 1, []) := by decide +kernel
theorem f_165_103 : mFetch 165 103 = some (.aload_n 2, 1, []) := by decide +kernel
theorem f_165_104 : mFetch 165 104 = some (.iconst 3, 1, []) := by decide +kernel
theorem f_165_105 : mFetch 165 105 = some (.iaload, 1, []) := by decide +kernel
theorem f_165_106 : mFetch 165 106 = some (.aload_n 2, 1, []) := by decide +kernel
theorem f_165_107 : mFetch 165 107 = some (.iconst 4, 1, []) := by decide +kernel
theorem f_165_108 : mFetch 165 108 = some (.iaload, 1, []) := by decide +kernel
theorem f_165_109 : mFetch 165 109 = some (.invokevirtual 19, 3, [96, 6, 2, 9, 989, 990, 991]) := by decide +kernel
theorem f_165_112 : mFetch 165 112 = some (.pop, 1, []) := by decide +kernel
theorem f_165_113 : mFetch 165 113 = some (.iinc 3 20, 3, []) := by decide +kernel
theorem f_165_116 : mFetch 165 116 = some (.goto (-110), 3, [6]) := by decide +kernel
theorem f_165_119 : mFetch 165 119 = some (.aload_n 0, 1, []) := by decide +kernel
theorem f_165_120 : mFetch 165 120 = some (.aload_n 1, 1, []) := by decide +kernel
theorem f_165_121 : mFetch 165 121 = some (.invokevirtual 9, 3, [149, 1, 2, 11, 941, 942, 943]) := by decide +kernel
theorem f_165_124 : mFetch 165 124 = some (.invokevirtual 25, 3, [97, 2, 2, 9, 1014, 1015, 1016]) := by decide +kernel
theorem f_165_127 : mFetch 165 127 = some (.pop, 1, []) := by decide +kernel
theorem f_165_128 : mFetch 165 128 = some (.aload_n 0, 1, []) := by decide +kernel
theorem f_165_129 : mFetch 165 129 = some (.invokevirtual 29, 3, [98, 1, 2, 9, 1019, 1020, 1021]) := by decide +kernel
theorem f_165_132 : mFetch 165 132 = some (.ireturn, 1, [0]) := by decide +kernel
theorem b_165_0 {d : Nat} {a0 : Nat} {a1 : Nat} {w : MW} : mX d 165 0 [.ref a0, .ref a1, mJ, mJ, mJ, mJ] [] w = mX d 165 3 [.ref a0, .ref a1, mJ, mJ, mJ, mJ] [.ref (mSz w)] (wN w 50 5 5) := by
  refine Eq.trans (X_iconst f_165_0 kc_i_5) ?_
  refine Eq.trans (X_newa f_165_1 kn_5 kl_5 (Nat.le_of_ble_eq_true rfl)) ?_
  exact mX_mask rfl
theorem e_165 {d : Nat} {a0 : Nat} {a1 : Nat} {w : MW} : mK d 165 [.ref a0, .ref a1] w = mX d 165 0 [.ref a0, .ref a1, mJ, mJ, mJ, mJ] [] w := rfl
theorem b_165_3 {d : Nat} {a0 : Nat} {a1 : Nat} {b0 : Nat} {w : MW} : mX d 165 3 [.ref a0, .ref a1, mJ, mJ, mJ, mJ] [.ref b0] w = mX d 165 6 [.ref a0, .ref a1, .ref b0, .int (nI 0), mJ, mJ] [] w := by
  refine Eq.trans (X_astore_n (L' := [.ref a0, .ref a1, .ref b0, mJ, mJ, mJ]) f_165_3 (Nat.le_of_ble_eq_true rfl) rfl) ?_
  refine Eq.trans (X_iconst f_165_4 kc_i_0) ?_
  refine Eq.trans (X_istore_n (L' := [.ref a0, .ref a1, .ref b0, .int (nI 0), mJ, mJ]) f_165_5 (Nat.le_of_ble_eq_true rfl) rfl) ?_
  exact mX_mask rfl
theorem b_165_6 {d : Nat} {a0 : Nat} {a1 : Nat} {a2 : Nat} {x3 : Int32} {w : MW} (h0 : mTg w a1 = 11) : mX (d + 1) 165 6 [.ref a0, .ref a1, .ref a2, .int x3, mJ, mJ] [] w = mThen (mK d 149 [.ref a1] w) (fun v w9 => mX (d + 1) 165 11 [.ref a0, .ref a1, .ref a2, .int x3, mJ, mJ] (v.toList ++ [.int x3]) w9) := by
  refine Eq.trans (X_st f_165_6 rfl rfl) ?_
  refine Eq.trans (X_st f_165_7 rfl rfl) ?_
  refine Eq.trans (X_call f_165_8 (by decide) rfl rfl rfl rfl rfl rfl (Nat.le_of_ble_eq_true rfl) (Nat.le_of_ble_eq_true rfl) (decide_eq_true h0) (Nat.le_of_ble_eq_true rfl)) ?_
  exact mThen_eq fun v w9 => mX_mask rfl
theorem b_165_11 {d : Nat} {a0 : Nat} {a1 : Nat} {a2 : Nat} {x3 : Int32} {y0 : Int32} {y1 : Int32} {w : MW} : mX d 165 11 [.ref a0, .ref a1, .ref a2, .int x3, mJ, mJ] [.int y0, .int y1] w = (if y0 ≤ y1 then mX d 165 119 [.ref a0, .ref a1, mJ, mJ, mJ, mJ] [] w else mX d 165 14 [.ref a0, .ref a1, .ref a2, .int x3, mJ, mJ] [] w) := by
  refine Eq.trans (X_br f_165_11 rfl rfl) ?_
  exact mIte_eq (mX_mask rfl) (mX_mask rfl)
theorem b_165_14 {d : Nat} {a0 : Nat} {a1 : Nat} {a2 : Nat} {x3 : Int32} {w : MW} : mX d 165 14 [.ref a0, .ref a1, .ref a2, .int x3, mJ, mJ] [] w = mX d 165 17 [.ref a0, .ref a1, .ref a2, .int x3, .int (nI 0), mJ] [] w := by
  refine Eq.trans (X_iconst f_165_14 kc_i_0) ?_
  refine Eq.trans (X_istore (L' := [.ref a0, .ref a1, .ref a2, .int x3, .int (nI 0), mJ]) f_165_15 (Nat.le_of_ble_eq_true rfl) rfl) ?_
  exact mX_mask rfl
theorem b_165_17 {d : Nat} {a0 : Nat} {a1 : Nat} {a2 : Nat} {x3 : Int32} {x4 : Int32} {w : MW} : mX d 165 17 [.ref a0, .ref a1, .ref a2, .int x3, .int x4, mJ] [] w = (if (nI 5) ≤ x4 then mX d 165 93 [.ref a0, .ref a1, .ref a2, .int x3, mJ, mJ] [] w else mX d 165 23 [.ref a0, .ref a1, .ref a2, .int x3, .int x4, mJ] [] w) := by
  refine Eq.trans (X_st f_165_17 rfl rfl) ?_
  refine Eq.trans (X_iconst f_165_19 kc_i_5) ?_
  refine Eq.trans (X_br f_165_20 rfl rfl) ?_
  exact mIte_eq (mX_mask rfl) (mX_mask rfl)
theorem b_165_23 {d : Nat} {a0 : Nat} {a1 : Nat} {a2 : Nat} {x3 : Int32} {x4 : Nat} {w : MW} (h0 : mTg w a2 = 50) (h1 : mE ≤ a2) (h2 : x4 < 2147483648) (h3 : x4 < mLn w a2) : mX d 165 23 [.ref a0, .ref a1, .ref a2, .int x3, .int (nI x4), mJ] [] w = mX d 165 28 [.ref a0, .ref a1, .ref a2, .int x3, .int (nI x4), mJ] [] (wI w a2 x4 (nI 0)) := by
  refine Eq.trans (X_st f_165_23 rfl rfl) ?_
  refine Eq.trans (X_st f_165_24 rfl rfl) ?_
  refine Eq.trans (X_iconst f_165_26 kc_i_0) ?_
  refine Eq.trans (X_iast f_165_27 h0 h1 (jnn h2) (jcl h2) h3) ?_
  exact mX_mask rfl
theorem b_165_28 {d : Nat} {a0 : Nat} {a1 : Nat} {a2 : Nat} {x3 : Int32} {x4 : Int32} {w : MW} : mX d 165 28 [.ref a0, .ref a1, .ref a2, .int x3, .int x4, mJ] [] w = mX d 165 36 [.ref a0, .ref a1, .ref a2, .int x3, .int x4, .int (x3 + ((nI 4) * x4))] [] w := by
  refine Eq.trans (X_st f_165_28 rfl rfl) ?_
  refine Eq.trans (X_iconst f_165_29 kc_i_4) ?_
  refine Eq.trans (X_st f_165_30 rfl rfl) ?_
  refine Eq.trans (X_st f_165_32 rfl rfl) ?_
  refine Eq.trans (X_st f_165_33 rfl rfl) ?_
  refine Eq.trans (X_istore (L' := [.ref a0, .ref a1, .ref a2, .int x3, .int x4, .int (x3 + ((nI 4) * x4))]) f_165_34 (Nat.le_of_ble_eq_true rfl) rfl) ?_
  exact mX_mask rfl
theorem b_165_36 {d : Nat} {a0 : Nat} {a1 : Nat} {a2 : Nat} {x3 : Int32} {x4 : Int32} {x5 : Int32} {w : MW} : mX d 165 36 [.ref a0, .ref a1, .ref a2, .int x3, .int x4, .int x5] [] w = (if ((x3 + ((nI 4) * x4)) + (nI 4)) ≤ x5 then mX d 165 87 [.ref a0, .ref a1, .ref a2, .int x3, .int x4, mJ] [] w else mX d 165 49 [.ref a0, .ref a1, .ref a2, .int x3, .int x4, .int x5] [] w) := by
  refine Eq.trans (X_st f_165_36 rfl rfl) ?_
  refine Eq.trans (X_st f_165_38 rfl rfl) ?_
  refine Eq.trans (X_iconst f_165_39 kc_i_4) ?_
  refine Eq.trans (X_st f_165_40 rfl rfl) ?_
  refine Eq.trans (X_st f_165_42 rfl rfl) ?_
  refine Eq.trans (X_st f_165_43 rfl rfl) ?_
  refine Eq.trans (X_iconst f_165_44 kc_i_4) ?_
  refine Eq.trans (X_st f_165_45 rfl rfl) ?_
  refine Eq.trans (X_br f_165_46 rfl rfl) ?_
  exact mIte_eq (mX_mask rfl) (mX_mask rfl)
theorem b_165_49 {d : Nat} {a0 : Nat} {a1 : Nat} {a2 : Nat} {x3 : Int32} {x4 : Nat} {x5 : Int32} {w : MW} (h0 : mTg w a2 = 50) (h1 : x4 < 2147483648) (h2 : x4 < mLn w a2) (h3 : mTg w a1 = 11) : mX (d + 1) 165 49 [.ref a0, .ref a1, .ref a2, .int x3, .int (nI x4), .int x5] [] w = mThen (mK d 149 [.ref a1] w) (fun v w9 => mX (d + 1) 165 65 [.ref a0, .ref a1, .ref a2, .int x3, .int (nI x4), .int x5] (v.toList ++ [.int x5, .int ((mI w a2 x4) <<< ((nI 8) &&& 31)), .int (nI x4), .ref a2]) w9) := by
  refine Eq.trans (X_st f_165_49 rfl rfl) ?_
  refine Eq.trans (X_st f_165_50 rfl rfl) ?_
  refine Eq.trans (X_st f_165_52 rfl rfl) ?_
  refine Eq.trans (X_st f_165_53 rfl rfl) ?_
  refine Eq.trans (X_iald f_165_55 h0 (jnn h1) (jcl h1) h2) ?_
  refine Eq.trans (X_bipush f_165_56 kc_b_8) ?_
  refine Eq.trans (X_st f_165_58 rfl rfl) ?_
  refine Eq.trans (X_st f_165_59 rfl rfl) ?_
  refine Eq.trans (X_st f_165_61 rfl rfl) ?_
  refine Eq.trans (X_call f_165_62 (by decide) rfl rfl rfl rfl rfl rfl (Nat.le_of_ble_eq_true rfl) (Nat.le_of_ble_eq_true rfl) (decide_eq_true h3) (Nat.le_of_ble_eq_true rfl)) ?_
  exact mThen_eq fun v w9 => mX_mask rfl
theorem b_165_65 {d : Nat} {a0 : Nat} {a1 : Nat} {a2 : Nat} {x3 : Int32} {x4 : Int32} {x5 : Int32} {y0 : Int32} {y1 : Int32} {y2 : Int32} {y3 : Int32} {b4 : Nat} {w : MW} : mX d 165 65 [.ref a0, .ref a1, .ref a2, .int x3, .int x4, .int x5] [.int y0, .int y1, .int y2, .int y3, .ref b4] w = (if y0 ≤ y1 then mX d 165 77 [.ref a0, .ref a1, .ref a2, .int x3, .int x4, .int x5] [.int y2, .int y3, .ref b4] w else mX d 165 68 [.ref a0, .ref a1, .ref a2, .int x3, .int x4, .int x5] [.int y2, .int y3, .ref b4] w) := by
  refine Eq.trans (X_br f_165_65 rfl rfl) ?_
  exact mIte_eq (mX_mask rfl) (mX_mask rfl)
theorem b_165_68 {d : Nat} {a0 : Nat} {a1 : Nat} {a2 : Nat} {x3 : Int32} {x4 : Int32} {x5 : Int32} {y0 : Int32} {y1 : Int32} {b2 : Nat} {w : MW} (h0 : mTg w a1 = 11) : mX (d + 1) 165 68 [.ref a0, .ref a1, .ref a2, .int x3, .int x4, .int x5] [.int y0, .int y1, .ref b2] w = mThen (mK d 150 [.ref a1, .int x5] w) (fun v w9 => mX (d + 1) 165 74 [.ref a0, .ref a1, .ref a2, .int x3, .int x4, .int x5] (v.toList ++ [.int y0, .int y1, .ref b2]) w9) := by
  refine Eq.trans (X_st f_165_68 rfl rfl) ?_
  refine Eq.trans (X_st f_165_69 rfl rfl) ?_
  refine Eq.trans (X_call f_165_71 (by decide) rfl rfl rfl rfl rfl rfl (Nat.le_of_ble_eq_true rfl) (Nat.le_of_ble_eq_true rfl) (decide_eq_true h0) (Nat.le_of_ble_eq_true rfl)) ?_
  exact mThen_eq fun v w9 => mX_mask rfl
theorem b_165_74 {d : Nat} {a0 : Nat} {a1 : Nat} {a2 : Nat} {x3 : Int32} {x4 : Int32} {x5 : Int32} {y0 : Int32} {y1 : Int32} {y2 : Int32} {b3 : Nat} {w : MW} : mX d 165 74 [.ref a0, .ref a1, .ref a2, .int x3, .int x4, .int x5] [.int y0, .int y1, .int y2, .ref b3] w = mX d 165 79 [.ref a0, .ref a1, .ref a2, .int x3, .int x4, .int x5] [.int y0, .int y1, .int y2, .ref b3] w := by
  refine Eq.trans (X_st f_165_74 rfl rfl) ?_
  exact mX_mask rfl
theorem b_165_77 {d : Nat} {a0 : Nat} {a1 : Nat} {a2 : Nat} {x3 : Int32} {x4 : Int32} {x5 : Int32} {y0 : Int32} {y1 : Int32} {b2 : Nat} {w : MW} : mX d 165 77 [.ref a0, .ref a1, .ref a2, .int x3, .int x4, .int x5] [.int y0, .int y1, .ref b2] w = mX d 165 79 [.ref a0, .ref a1, .ref a2, .int x3, .int x4, .int x5] [.int (nI 32), .int y0, .int y1, .ref b2] w := by
  refine Eq.trans (X_bipush f_165_77 kc_b_32) ?_
  exact mX_mask rfl
theorem b_165_79 {d : Nat} {a0 : Nat} {a1 : Nat} {a2 : Nat} {x3 : Int32} {x4 : Int32} {x5 : Int32} {y0 : Int32} {y1 : Int32} {y2 : Nat} {b3 : Nat} {w : MW} (h0 : mTg w b3 = 50) (h1 : mE ≤ b3) (h2 : y2 < 2147483648) (h3 : y2 < mLn w b3) : mX d 165 79 [.ref a0, .ref a1, .ref a2, .int x3, .int x4, .int x5] [.int y0, .int y1, .int (nI y2), .ref b3] w = mX d 165 81 [.ref a0, .ref a1, .ref a2, .int x3, .int x4, .int x5] [] (wI w b3 y2 (y1 ||| y0)) := by
  refine Eq.trans (X_st f_165_79 rfl rfl) ?_
  refine Eq.trans (X_iast f_165_80 h0 h1 (jnn h2) (jcl h2) h3) ?_
  exact mX_mask rfl
theorem b_165_81 {d : Nat} {a0 : Nat} {a1 : Nat} {a2 : Nat} {x3 : Int32} {x4 : Int32} {x5 : Int32} {w : MW} : mX d 165 81 [.ref a0, .ref a1, .ref a2, .int x3, .int x4, .int x5] [] w = mX d 165 36 [.ref a0, .ref a1, .ref a2, .int x3, .int x4, .int (x5 + (nI 1))] [] w := by
  refine Eq.trans (X_iinc f_165_81 kc_i_1 rfl rfl) ?_
  refine Eq.trans (X_st f_165_84 rfl rfl) ?_
  exact mX_mask rfl
theorem b_165_87 {d : Nat} {a0 : Nat} {a1 : Nat} {a2 : Nat} {x3 : Int32} {x4 : Int32} {w : MW} : mX d 165 87 [.ref a0, .ref a1, .ref a2, .int x3, .int x4, mJ] [] w = mX d 165 17 [.ref a0, .ref a1, .ref a2, .int x3, .int (x4 + (nI 1)), mJ] [] w := by
  refine Eq.trans (X_iinc f_165_87 kc_i_1 rfl rfl) ?_
  refine Eq.trans (X_st f_165_90 rfl rfl) ?_
  exact mX_mask rfl
theorem b_165_93 {d : Nat} {a0 : Nat} {a1 : Nat} {a2 : Nat} {x3 : Int32} {w : MW} (h0 : mTg w a2 = 50) (h1 : 0 < mLn w a2) (h2 : 1 < mLn w a2) (h3 : 2 < mLn w a2) (h4 : 3 < mLn w a2) (h5 : 4 < mLn w a2) (h6 : mTg w a0 = 9) : mX (d + 1) 165 93 [.ref a0, .ref a1, .ref a2, .int x3, mJ, mJ] [] w = mThen (mK d 96 [.ref a0, .int (mI w a2 0), .int (mI w a2 1), .int (mI w a2 2), .int (mI w a2 3), .int (mI w a2 4)] w) (fun v w9 => mX (d + 1) 165 112 [.ref a0, .ref a1, .ref a2, .int x3, mJ, mJ] (v.toList ++ []) w9) := by
  refine Eq.trans (X_st f_165_93 rfl rfl) ?_
  refine Eq.trans (X_st f_165_94 rfl rfl) ?_
  refine Eq.trans (X_iconst f_165_95 kc_i_0) ?_
  refine Eq.trans (X_iald f_165_96 h0 kn_0 kl_0 h1) ?_
  refine Eq.trans (X_st f_165_97 rfl rfl) ?_
  refine Eq.trans (X_iconst f_165_98 kc_i_1) ?_
  refine Eq.trans (X_iald f_165_99 h0 kn_1 kl_1 h2) ?_
  refine Eq.trans (X_st f_165_100 rfl rfl) ?_
  refine Eq.trans (X_iconst f_165_101 kc_i_2) ?_
  refine Eq.trans (X_iald f_165_102 h0 kn_2 kl_2 h3) ?_
  refine Eq.trans (X_st f_165_103 rfl rfl) ?_
  refine Eq.trans (X_iconst f_165_104 kc_i_3) ?_
  refine Eq.trans (X_iald f_165_105 h0 kn_3 kl_3 h4) ?_
  refine Eq.trans (X_st f_165_106 rfl rfl) ?_
  refine Eq.trans (X_iconst f_165_107 kc_i_4) ?_
  refine Eq.trans (X_iald f_165_108 h0 kn_4 kl_4 h5) ?_
  refine Eq.trans (X_call f_165_109 (by decide) rfl rfl rfl rfl rfl rfl (Nat.le_of_ble_eq_true rfl) (Nat.le_of_ble_eq_true rfl) (decide_eq_true h6) (Nat.le_of_ble_eq_true rfl)) ?_
  exact mThen_eq fun v w9 => mX_mask rfl
theorem b_165_112 {d : Nat} {a0 : Nat} {a1 : Nat} {a2 : Nat} {x3 : Int32} {y0 : Int32} {w : MW} : mX d 165 112 [.ref a0, .ref a1, .ref a2, .int x3, mJ, mJ] [.int y0] w = mX d 165 6 [.ref a0, .ref a1, .ref a2, .int (x3 + (nI 20)), mJ, mJ] [] w := by
  refine Eq.trans (X_pop f_165_112 rfl) ?_
  refine Eq.trans (X_iinc f_165_113 kc_i_20 rfl rfl) ?_
  refine Eq.trans (X_st f_165_116 rfl rfl) ?_
  exact mX_mask rfl
theorem b_165_119 {d : Nat} {a0 : Nat} {a1 : Nat} {w : MW} (h0 : mTg w a1 = 11) : mX (d + 1) 165 119 [.ref a0, .ref a1, mJ, mJ, mJ, mJ] [] w = mThen (mK d 149 [.ref a1] w) (fun v w9 => mX (d + 1) 165 124 [.ref a0, mJ, mJ, mJ, mJ, mJ] (v.toList ++ [.ref a0]) w9) := by
  refine Eq.trans (X_st f_165_119 rfl rfl) ?_
  refine Eq.trans (X_st f_165_120 rfl rfl) ?_
  refine Eq.trans (X_call f_165_121 (by decide) rfl rfl rfl rfl rfl rfl (Nat.le_of_ble_eq_true rfl) (Nat.le_of_ble_eq_true rfl) (decide_eq_true h0) (Nat.le_of_ble_eq_true rfl)) ?_
  exact mThen_eq fun v w9 => mX_mask rfl
theorem b_165_124 {d : Nat} {a0 : Nat} {y0 : Int32} {b1 : Nat} {w : MW} (h0 : mTg w b1 = 9) : mX (d + 1) 165 124 [.ref a0, mJ, mJ, mJ, mJ, mJ] [.int y0, .ref b1] w = mThen (mK d 97 [.ref b1, .int y0] w) (fun v w9 => mX (d + 1) 165 127 [.ref a0, mJ, mJ, mJ, mJ, mJ] (v.toList ++ []) w9) := by
  refine Eq.trans (X_call f_165_124 (by decide) rfl rfl rfl rfl rfl rfl (Nat.le_of_ble_eq_true rfl) (Nat.le_of_ble_eq_true rfl) (decide_eq_true h0) (Nat.le_of_ble_eq_true rfl)) ?_
  exact mThen_eq fun v w9 => mX_mask rfl
theorem b_165_127 {d : Nat} {a0 : Nat} {y0 : Int32} {w : MW} (h0 : mTg w a0 = 9) : mX (d + 1) 165 127 [.ref a0, mJ, mJ, mJ, mJ, mJ] [.int y0] w = mThen (mK d 98 [.ref a0] w) (fun v w9 => mX (d + 1) 165 132 [mJ, mJ, mJ, mJ, mJ, mJ] (v.toList ++ []) w9) := by
  refine Eq.trans (X_pop f_165_127 rfl) ?_
  refine Eq.trans (X_st f_165_128 rfl rfl) ?_
  refine Eq.trans (X_call f_165_129 (by decide) rfl rfl rfl rfl rfl rfl (Nat.le_of_ble_eq_true rfl) (Nat.le_of_ble_eq_true rfl) (decide_eq_true h0) (Nat.le_of_ble_eq_true rfl)) ?_
  exact mThen_eq fun v w9 => mX_mask rfl
theorem b_165_132 {d : Nat} {y0 : Int32} {w : MW} : mX d 165 132 [mJ, mJ, mJ, mJ, mJ, mJ] [.int y0] w = some (.inl (some (.int y0)), w) := by
  exact X_ireturn f_165_132 rfl
/-! BeeTurnpikeLaw test ([I)Ljava/lang/String; -/
theorem f_166_0 : mFetch 166 0 = some (.aload_n 0, 1, []) := by decide +kernel
theorem f_166_1 : mFetch 166 1 = some (.iconst 3, 1, []) := by decide +kernel
theorem f_166_2 : mFetch 166 2 = some (.iaload, 1, []) := by decide +kernel
theorem f_166_3 : mFetch 166 3 = some (.istore_n 1, 1, []) := by decide +kernel
theorem f_166_4 : mFetch 166 4 = some (.new 32, 3, [12, 1552]) := by decide +kernel
theorem f_166_7 : mFetch 166 7 = some (.dup, 1, []) := by decide +kernel
theorem f_166_8 : mFetch 166 8 = some (.invokespecial 34, 3, [158, 1, 5, 0, 1554, 1555]) := by decide +kernel
theorem f_166_11 : mFetch 166 11 = some (.ldc 35, 2, [1, 70]) := by decide +kernel
theorem f_166_13 : mFetch 166 13 = some (.invokevirtual 37, 3, [159, 2, 2, 12, 1400, 1401, 1402]) := by decide +kernel
theorem f_166_16 : mFetch 166 16 = some (.aload_n 0, 1, []) := by decide +kernel
theorem f_166_17 : mFetch 166 17 = some (.iconst 4, 1, []) := by decide +kernel
theorem f_166_18 : mFetch 166 18 = some (.iaload, 1, []) := by decide +kernel
theorem f_166_19 : mFetch 166 19 = some (.invokevirtual 41, 3, [160, 2, 2, 12, 1495, 1496, 1497]) := by decide +kernel
theorem f_166_22 : mFetch 166 22 = some (.invokevirtual 44, 3, [161, 1, 2, 12, 1573, 1574, 1575]) := by decide +kernel
theorem f_166_25 : mFetch 166 25 = some (.astore_n 2, 1, []) := by decide +kernel
theorem f_166_26 : mFetch 166 26 = some (.new 32, 3, [12, 1552]) := by decide +kernel
theorem f_166_29 : mFetch 166 29 = some (.dup, 1, []) := by decide +kernel
theorem f_166_30 : mFetch 166 30 = some (.invokespecial 34, 3, [158, 1, 5, 0, 1554, 1555]) := by decide +kernel
theorem f_166_33 : mFetch 166 33 = some (.ldc 48, 2, [1, 72]) := by decide +kernel
theorem f_166_35 : mFetch 166 35 = some (.invokevirtual 37, 3, [159, 2, 2, 12, 1400, 1401, 1402]) := by decide +kernel
theorem f_166_38 : mFetch 166 38 = some (.aload_n 0, 1, []) := by decide +kernel
theorem f_166_39 : mFetch 166 39 = some (.iconst 5, 1, []) := by decide +kernel
theorem f_166_40 : mFetch 166 40 = some (.iaload, 1, []) := by decide +kernel
theorem f_166_41 : mFetch 166 41 = some (.invokevirtual 41, 3, [160, 2, 2, 12, 1495, 1496, 1497]) := by decide +kernel
theorem f_166_44 : mFetch 166 44 = some (.invokevirtual 44, 3, [161, 1, 2, 12, 1573, 1574, 1575]) := by decide +kernel
theorem f_166_47 : mFetch 166 47 = some (.astore_n 3, 1, []) := by decide +kernel
theorem f_166_48 : mFetch 166 48 = some (.aload_n 0, 1, []) := by decide +kernel
theorem f_166_49 : mFetch 166 49 = some (.iconst 2, 1, []) := by decide +kernel
theorem f_166_50 : mFetch 166 50 = some (.iaload, 1, []) := by decide +kernel
theorem f_166_51 : mFetch 166 51 = some (.tableswitch 270 0 7 #[45, 74, 103, 128, 148, 182, 220, 267], 45, [321, 96, 125, 154, 179, 199, 233, 271, 318]) := by decide +kernel
theorem f_166_96 : mFetch 166 96 = some (.new 32, 3, [12, 1552]) := by decide +kernel
theorem f_166_99 : mFetch 166 99 = some (.dup, 1, []) := by decide +kernel
theorem f_166_100 : mFetch 166 100 = some (.invokespecial 34, 3, [158, 1, 5, 0, 1554, 1555]) := by decide +kernel
theorem f_166_103 : mFetch 166 103 = some (.ldc 50, 2, [1, 74]) := by decide +kernel
theorem f_166_105 : mFetch 166 105 = some (.invokevirtual 37, 3, [159, 2, 2, 12, 1400, 1401, 1402]) := by decide +kernel
theorem f_166_108 : mFetch 166 108 = some (.aload_n 2, 1, []) := by decide +kernel
theorem f_166_109 : mFetch 166 109 = some (.invokevirtual 37, 3, [159, 2, 2, 12, 1400, 1401, 1402]) := by decide +kernel
theorem f_166_112 : mFetch 166 112 = some (.ldc 52, 2, [1, 76]) := by decide +kernel
theorem f_166_114 : mFetch 166 114 = some (.invokevirtual 37, 3, [159, 2, 2, 12, 1400, 1401, 1402]) := by decide +kernel
theorem f_166_117 : mFetch 166 117 = some (.iload_n 1, 1, []) := by decide +kernel
theorem f_166_118 : mFetch 166 118 = some (.invokevirtual 41, 3, [160, 2, 2, 12, 1495, 1496, 1497]) := by decide +kernel
theorem f_166_121 : mFetch 166 121 = some (.invokevirtual 44, 3, [161, 1, 2, 12, 1573, 1574, 1575]) := by decide +kernel
theorem f_166_124 : mFetch 166 124 = some (.areturn, 1, []) := by decide +kernel
theorem f_166_125 : mFetch 166 125 = some (.new 32, 3, [12, 1552]) := by decide +kernel
theorem f_166_128 : mFetch 166 128 = some (.dup, 1, []) := by decide +kernel
theorem f_166_129 : mFetch 166 129 = some (.invokespecial 34, 3, [158, 1, 5, 0, 1554, 1555]) := by decide +kernel
theorem f_166_132 : mFetch 166 132 = some (.ldc 54, 2, [1, 78]) := by decide +kernel
theorem f_166_134 : mFetch 166 134 = some (.invokevirtual 37, 3, [159, 2, 2, 12, 1400, 1401, 1402]) := by decide +kernel
theorem f_166_137 : mFetch 166 137 = some (.aload_n 2, 1, []) := by decide +kernel
theorem f_166_138 : mFetch 166 138 = some (.invokevirtual 37, 3, [159, 2, 2, 12, 1400, 1401, 1402]) := by decide +kernel
theorem f_166_141 : mFetch 166 141 = some (.ldc 56, 2, [1, 80]) := by decide +kernel
theorem f_166_143 : mFetch 166 143 = some (.invokevirtual 37, 3, [159, 2, 2, 12, 1400, 1401, 1402]) := by decide +kernel
theorem f_166_146 : mFetch 166 146 = some (.iload_n 1, 1, []) := by decide +kernel
theorem f_166_147 : mFetch 166 147 = some (.invokevirtual 41, 3, [160, 2, 2, 12, 1495, 1496, 1497]) := by decide +kernel
theorem f_166_150 : mFetch 166 150 = some (.invokevirtual 44, 3, [161, 1, 2, 12, 1573, 1574, 1575]) := by decide +kernel
theorem f_166_153 : mFetch 166 153 = some (.areturn, 1, []) := by decide +kernel
theorem f_166_154 : mFetch 166 154 = some (.new 32, 3, [12, 1552]) := by decide +kernel
theorem f_166_157 : mFetch 166 157 = some (.dup, 1, []) := by decide +kernel
theorem f_166_158 : mFetch 166 158 = some (.invokespecial 34, 3, [158, 1, 5, 0, 1554, 1555]) := by decide +kernel
theorem f_166_161 : mFetch 166 161 = some (.ldc 58, 2, [1, 82]) := by decide +kernel
theorem f_166_163 : mFetch 166 163 = some (.invokevirtual 37, 3, [159, 2, 2, 12, 1400, 1401, 1402]) := by decide +kernel
theorem f_166_166 : mFetch 166 166 = some (.aload_n 2, 1, []) := by decide +kernel
theorem f_166_167 : mFetch 166 167 = some (.invokevirtual 37, 3, [159, 2, 2, 12, 1400, 1401, 1402]) := by decide +kernel
theorem f_166_170 : mFetch 166 170 = some (.ldc 60, 2, [1, 84]) := by decide +kernel
theorem f_166_172 : mFetch 166 172 = some (.invokevirtual 37, 3, [159, 2, 2, 12, 1400, 1401, 1402]) := by decide +kernel
theorem f_166_175 : mFetch 166 175 = some (.invokevirtual 44, 3, [161, 1, 2, 12, 1573, 1574, 1575]) := by decide +kernel
theorem f_166_178 : mFetch 166 178 = some (.areturn, 1, []) := by decide +kernel
theorem f_166_179 : mFetch 166 179 = some (.new 32, 3, [12, 1552]) := by decide +kernel
theorem f_166_182 : mFetch 166 182 = some (.dup, 1, []) := by decide +kernel
theorem f_166_183 : mFetch 166 183 = some (.invokespecial 34, 3, [158, 1, 5, 0, 1554, 1555]) := by decide +kernel
theorem f_166_186 : mFetch 166 186 = some (.ldc 62, 2, [1, 86]) := by decide +kernel
theorem f_166_188 : mFetch 166 188 = some (.invokevirtual 37, 3, [159, 2, 2, 12, 1400, 1401, 1402]) := by decide +kernel
theorem f_166_191 : mFetch 166 191 = some (.iload_n 1, 1, []) := by decide +kernel
theorem f_166_192 : mFetch 166 192 = some (.invokevirtual 41, 3, [160, 2, 2, 12, 1495, 1496, 1497]) := by decide +kernel
theorem f_166_195 : mFetch 166 195 = some (.invokevirtual 44, 3, [161, 1, 2, 12, 1573, 1574, 1575]) := by decide +kernel
theorem f_166_198 : mFetch 166 198 = some (.areturn, 1, []) := by decide +kernel
theorem f_166_199 : mFetch 166 199 = some (.new 32, 3, [12, 1552]) := by decide +kernel
theorem f_166_202 : mFetch 166 202 = some (.dup, 1, []) := by decide +kernel
theorem f_166_203 : mFetch 166 203 = some (.invokespecial 34, 3, [158, 1, 5, 0, 1554, 1555]) := by decide +kernel
theorem f_166_206 : mFetch 166 206 = some (.ldc 64, 2, [1, 88]) := by decide +kernel
theorem f_166_208 : mFetch 166 208 = some (.invokevirtual 37, 3, [159, 2, 2, 12, 1400, 1401, 1402]) := by decide +kernel
theorem f_166_211 : mFetch 166 211 = some (.iload_n 1, 1, []) := by decide +kernel
theorem f_166_212 : mFetch 166 212 = some (.invokevirtual 41, 3, [160, 2, 2, 12, 1495, 1496, 1497]) := by decide +kernel
theorem f_166_215 : mFetch 166 215 = some (.ldc 66, 2, [1, 90]) := by decide +kernel
theorem f_166_217 : mFetch 166 217 = some (.invokevirtual 37, 3, [159, 2, 2, 12, 1400, 1401, 1402]) := by decide +kernel
theorem f_166_220 : mFetch 166 220 = some (.aload_n 2, 1, []) := by decide +kernel
theorem f_166_221 : mFetch 166 221 = some (.invokevirtual 37, 3, [159, 2, 2, 12, 1400, 1401, 1402]) := by decide +kernel
theorem f_166_224 : mFetch 166 224 = some (.ldc 68, 2, [1, 92]) := by decide +kernel
theorem f_166_226 : mFetch 166 226 = some (.invokevirtual 37, 3, [159, 2, 2, 12, 1400, 1401, 1402]) := by decide +kernel
theorem f_166_229 : mFetch 166 229 = some (.invokevirtual 44, 3, [161, 1, 2, 12, 1573, 1574, 1575]) := by decide +kernel
theorem f_166_232 : mFetch 166 232 = some (.areturn, 1, []) := by decide +kernel
theorem f_166_233 : mFetch 166 233 = some (.new 32, 3, [12, 1552]) := by decide +kernel
theorem f_166_236 : mFetch 166 236 = some (.dup, 1, []) := by decide +kernel
theorem f_166_237 : mFetch 166 237 = some (.invokespecial 34, 3, [158, 1, 5, 0, 1554, 1555]) := by decide +kernel
theorem f_166_240 : mFetch 166 240 = some (.ldc 70, 2, [1, 94]) := by decide +kernel
theorem f_166_242 : mFetch 166 242 = some (.invokevirtual 37, 3, [159, 2, 2, 12, 1400, 1401, 1402]) := by decide +kernel
theorem f_166_245 : mFetch 166 245 = some (.aload_n 2, 1, []) := by decide +kernel
theorem f_166_246 : mFetch 166 246 = some (.invokevirtual 37, 3, [159, 2, 2, 12, 1400, 1401, 1402]) := by decide +kernel
theorem f_166_249 : mFetch 166 249 = some (.ldc 72, 2, [1, 96]) := by decide +kernel
theorem f_166_251 : mFetch 166 251 = some (.invokevirtual 37, 3, [159, 2, 2, 12, 1400, 1401, 1402]) := by decide +kernel
theorem f_166_254 : mFetch 166 254 = some (.aload_n 3, 1, []) := by decide +kernel
theorem f_166_255 : mFetch 166 255 = some (.invokevirtual 37, 3, [159, 2, 2, 12, 1400, 1401, 1402]) := by decide +kernel
theorem f_166_258 : mFetch 166 258 = some (.ldc 52, 2, [1, 76]) := by decide +kernel
theorem f_166_260 : mFetch 166 260 = some (.invokevirtual 37, 3, [159, 2, 2, 12, 1400, 1401, 1402]) := by decide +kernel
theorem f_166_263 : mFetch 166 263 = some (.iload_n 1, 1, []) := by decide +kernel
theorem f_166_264 : mFetch 166 264 = some (.invokevirtual 41, 3, [160, 2, 2, 12, 1495, 1496, 1497]) := by decide +kernel
theorem f_166_267 : mFetch 166 267 = some (.invokevirtual 44, 3, [161, 1, 2, 12, 1573, 1574, 1575]) := by decide +kernel
theorem f_166_270 : mFetch 166 270 = some (.areturn, 1, []) := by decide +kernel
theorem f_166_271 : mFetch 166 271 = some (.new 32, 3, [12, 1552]) := by decide +kernel
theorem f_166_274 : mFetch 166 274 = some (.dup, 1, []) := by decide +kernel
theorem f_166_275 : mFetch 166 275 = some (.invokespecial 34, 3, [158, 1, 5, 0, 1554, 1555]) := by decide +kernel
theorem f_166_278 : mFetch 166 278 = some (.ldc 74, 2, [1, 98]) := by decide +kernel
theorem f_166_280 : mFetch 166 280 = some (.invokevirtual 37, 3, [159, 2, 2, 12, 1400, 1401, 1402]) := by decide +kernel
theorem f_166_283 : mFetch 166 283 = some (.aload_n 2, 1, []) := by decide +kernel
theorem f_166_284 : mFetch 166 284 = some (.invokevirtual 37, 3, [159, 2, 2, 12, 1400, 1401, 1402]) := by decide +kernel
theorem f_166_287 : mFetch 166 287 = some (.ldc 76, 2, [1, 100]) := by decide +kernel
theorem f_166_289 : mFetch 166 289 = some (.invokevirtual 37, 3, [159, 2, 2, 12, 1400, 1401, 1402]) := by decide +kernel
theorem f_166_292 : mFetch 166 292 = some (.aload_n 2, 1, []) := by decide +kernel
theorem f_166_293 : mFetch 166 293 = some (.invokevirtual 37, 3, [159, 2, 2, 12, 1400, 1401, 1402]) := by decide +kernel
theorem f_166_296 : mFetch 166 296 = some (.ldc 78, 2, [1, 102]) := by decide +kernel
theorem f_166_298 : mFetch 166 298 = some (.invokevirtual 37, 3, [159, 2, 2, 12, 1400, 1401, 1402]) := by decide +kernel
theorem f_166_301 : mFetch 166 301 = some (.aload_n 3, 1, []) := by decide +kernel
theorem f_166_302 : mFetch 166 302 = some (.invokevirtual 37, 3, [159, 2, 2, 12, 1400, 1401, 1402]) := by decide +kernel
theorem f_166_305 : mFetch 166 305 = some (.ldc 80, 2, [1, 104]) := by decide +kernel
theorem f_166_307 : mFetch 166 307 = some (.invokevirtual 37, 3, [159, 2, 2, 12, 1400, 1401, 1402]) := by decide +kernel
theorem f_166_310 : mFetch 166 310 = some (.iload_n 1, 1, []) := by decide +kernel
theorem f_166_311 : mFetch 166 311 = some (.invokevirtual 41, 3, [160, 2, 2, 12, 1495, 1496, 1497]) := by decide +kernel
theorem f_166_314 : mFetch 166 314 = some (.invokevirtual 44, 3, [161, 1, 2, 12, 1573, 1574, 1575]) := by decide +kernel
theorem f_166_317 : mFetch 166 317 = some (.areturn, 1, []) := by decide +kernel
theorem f_166_318 : mFetch 166 318 = some (.ldc 82, 2, [1, 106]) := by decide +kernel
theorem f_166_320 : mFetch 166 320 = some (.areturn, 1, []) := by decide +kernel
theorem f_166_321 : mFetch 166 321 = some (.new 32, 3, [12, 1552]) := by decide +kernel
theorem f_166_324 : mFetch 166 324 = some (.dup, 1, []) := by decide +kernel
theorem f_166_325 : mFetch 166 325 = some (.invokespecial 34, 3, [158, 1, 5, 0, 1554, 1555]) := by decide +kernel
theorem f_166_328 : mFetch 166 328 = some (.ldc 84, 2, [1, 108]) := by decide +kernel
theorem f_166_330 : mFetch 166 330 = some (.invokevirtual 37, 3, [159, 2, 2, 12, 1400, 1401, 1402]) := by decide +kernel
theorem f_166_333 : mFetch 166 333 = some (.aload_n 2, 1, []) := by decide +kernel
theorem f_166_334 : mFetch 166 334 = some (.invokevirtual 37, 3, [159, 2, 2, 12, 1400, 1401, 1402]) := by decide +kernel
theorem f_166_337 : mFetch 166 337 = some (.ldc 86, 2, [1, 110]) := by decide +kernel
theorem f_166_339 : mFetch 166 339 = some (.invokevirtual 37, 3, [159, 2, 2, 12, 1400, 1401, 1402]) := by decide +kernel
theorem f_166_342 : mFetch 166 342 = some (.iload_n 1, 1, []) := by decide +kernel
theorem f_166_343 : mFetch 166 343 = some (.invokevirtual 41, 3, [160, 2, 2, 12, 1495, 1496, 1497]) := by decide +kernel
theorem f_166_346 : mFetch 166 346 = some (.ldc 88, 2, [1, 112]) := by decide +kernel
theorem f_166_348 : mFetch 166 348 = some (.invokevirtual 37, 3, [159, 2, 2, 12, 1400, 1401, 1402]) := by decide +kernel
theorem f_166_351 : mFetch 166 351 = some (.invokevirtual 44, 3, [161, 1, 2, 12, 1573, 1574, 1575]) := by decide +kernel
theorem f_166_354 : mFetch 166 354 = some (.areturn, 1, []) := by decide +kernel
theorem b_166_0 {d : Nat} {a0 : Nat} {w : MW} (h0 : mTg w a0 = 50) (h1 : 3 < mLn w a0) : mX d 166 0 [.ref a0, mJ, mJ, mJ] [] w = mX d 166 7 [.ref a0, .int (mI w a0 3), mJ, mJ] [.ref (mSz w)] (wN w 12 0 (mNf 12)) := by
  refine Eq.trans (X_st f_166_0 rfl rfl) ?_
  refine Eq.trans (X_iconst f_166_1 kc_i_3) ?_
  refine Eq.trans (X_iald f_166_2 h0 kn_3 kl_3 h1) ?_
  refine Eq.trans (X_istore_n (L' := [.ref a0, .int (mI w a0 3), mJ, mJ]) f_166_3 (Nat.le_of_ble_eq_true rfl) rfl) ?_
  refine Eq.trans (X_new f_166_4 (Nat.le_of_ble_eq_true rfl)) ?_
  exact mX_mask rfl
theorem e_166 {d : Nat} {a0 : Nat} {w : MW} : mK d 166 [.ref a0] w = mX d 166 0 [.ref a0, mJ, mJ, mJ] [] w := rfl
theorem b_166_7 {d : Nat} {a0 : Nat} {x1 : Int32} {b0 : Nat} {w : MW} (h0 : mE ≤ b0) : mX (d + 1) 166 7 [.ref a0, .int x1, mJ, mJ] [.ref b0] w = mThen (mK d 158 [.ref b0] w) (fun v w9 => mX (d + 1) 166 11 [.ref a0, .int x1, mJ, mJ] (v.toList ++ [.ref b0]) w9) := by
  refine Eq.trans (X_dup f_166_7 rfl) ?_
  refine Eq.trans (X_call f_166_8 (by decide) rfl rfl rfl rfl rfl rfl (Nat.le_of_ble_eq_true rfl) (Nat.le_of_ble_eq_true rfl) (decide_eq_true h0) (Nat.le_of_ble_eq_true rfl)) ?_
  exact mThen_eq fun v w9 => mX_mask rfl
theorem b_166_11 {d : Nat} {a0 : Nat} {x1 : Int32} {b0 : Nat} {w : MW} (h0 : mTg w b0 = 12) : mX (d + 1) 166 11 [.ref a0, .int x1, mJ, mJ] [.ref b0] w = mThen (mK d 159 [.ref b0, .ref 70] w) (fun v w9 => mX (d + 1) 166 16 [.ref a0, .int x1, mJ, mJ] (v.toList ++ []) w9) := by
  refine Eq.trans (X_st f_166_11 rfl rfl) ?_
  refine Eq.trans (X_call f_166_13 (by decide) rfl rfl rfl rfl rfl rfl (Nat.le_of_ble_eq_true rfl) (Nat.le_of_ble_eq_true rfl) (decide_eq_true h0) (Nat.le_of_ble_eq_true rfl)) ?_
  exact mThen_eq fun v w9 => mX_mask rfl
theorem b_166_16 {d : Nat} {a0 : Nat} {x1 : Int32} {b0 : Nat} {w : MW} (h0 : mTg w a0 = 50) (h1 : 4 < mLn w a0) (h2 : mTg w b0 = 12) : mX (d + 1) 166 16 [.ref a0, .int x1, mJ, mJ] [.ref b0] w = mThen (mK d 160 [.ref b0, .int (mI w a0 4)] w) (fun v w9 => mX (d + 1) 166 22 [.ref a0, .int x1, mJ, mJ] (v.toList ++ []) w9) := by
  refine Eq.trans (X_st f_166_16 rfl rfl) ?_
  refine Eq.trans (X_iconst f_166_17 kc_i_4) ?_
  refine Eq.trans (X_iald f_166_18 h0 kn_4 kl_4 h1) ?_
  refine Eq.trans (X_call f_166_19 (by decide) rfl rfl rfl rfl rfl rfl (Nat.le_of_ble_eq_true rfl) (Nat.le_of_ble_eq_true rfl) (decide_eq_true h2) (Nat.le_of_ble_eq_true rfl)) ?_
  exact mThen_eq fun v w9 => mX_mask rfl
theorem b_166_22 {d : Nat} {a0 : Nat} {x1 : Int32} {b0 : Nat} {w : MW} (h0 : mTg w b0 = 12) : mX (d + 1) 166 22 [.ref a0, .int x1, mJ, mJ] [.ref b0] w = mThen (mK d 161 [.ref b0] w) (fun v w9 => mX (d + 1) 166 25 [.ref a0, .int x1, mJ, mJ] (v.toList ++ []) w9) := by
  refine Eq.trans (X_call f_166_22 (by decide) rfl rfl rfl rfl rfl rfl (Nat.le_of_ble_eq_true rfl) (Nat.le_of_ble_eq_true rfl) (decide_eq_true h0) (Nat.le_of_ble_eq_true rfl)) ?_
  exact mThen_eq fun v w9 => mX_mask rfl
theorem b_166_25 {d : Nat} {a0 : Nat} {x1 : Int32} {b0 : Nat} {w : MW} : mX d 166 25 [.ref a0, .int x1, mJ, mJ] [.ref b0] w = mX d 166 29 [.ref a0, .int x1, .ref b0, mJ] [.ref (mSz w)] (wN w 12 0 (mNf 12)) := by
  refine Eq.trans (X_astore_n (L' := [.ref a0, .int x1, .ref b0, mJ]) f_166_25 (Nat.le_of_ble_eq_true rfl) rfl) ?_
  refine Eq.trans (X_new f_166_26 (Nat.le_of_ble_eq_true rfl)) ?_
  exact mX_mask rfl
theorem b_166_29 {d : Nat} {a0 : Nat} {x1 : Int32} {a2 : Nat} {b0 : Nat} {w : MW} (h0 : mE ≤ b0) : mX (d + 1) 166 29 [.ref a0, .int x1, .ref a2, mJ] [.ref b0] w = mThen (mK d 158 [.ref b0] w) (fun v w9 => mX (d + 1) 166 33 [.ref a0, .int x1, .ref a2, mJ] (v.toList ++ [.ref b0]) w9) := by
  refine Eq.trans (X_dup f_166_29 rfl) ?_
  refine Eq.trans (X_call f_166_30 (by decide) rfl rfl rfl rfl rfl rfl (Nat.le_of_ble_eq_true rfl) (Nat.le_of_ble_eq_true rfl) (decide_eq_true h0) (Nat.le_of_ble_eq_true rfl)) ?_
  exact mThen_eq fun v w9 => mX_mask rfl
theorem b_166_33 {d : Nat} {a0 : Nat} {x1 : Int32} {a2 : Nat} {b0 : Nat} {w : MW} (h0 : mTg w b0 = 12) : mX (d + 1) 166 33 [.ref a0, .int x1, .ref a2, mJ] [.ref b0] w = mThen (mK d 159 [.ref b0, .ref 72] w) (fun v w9 => mX (d + 1) 166 38 [.ref a0, .int x1, .ref a2, mJ] (v.toList ++ []) w9) := by
  refine Eq.trans (X_st f_166_33 rfl rfl) ?_
  refine Eq.trans (X_call f_166_35 (by decide) rfl rfl rfl rfl rfl rfl (Nat.le_of_ble_eq_true rfl) (Nat.le_of_ble_eq_true rfl) (decide_eq_true h0) (Nat.le_of_ble_eq_true rfl)) ?_
  exact mThen_eq fun v w9 => mX_mask rfl
theorem b_166_38 {d : Nat} {a0 : Nat} {x1 : Int32} {a2 : Nat} {b0 : Nat} {w : MW} (h0 : mTg w a0 = 50) (h1 : 5 < mLn w a0) (h2 : mTg w b0 = 12) : mX (d + 1) 166 38 [.ref a0, .int x1, .ref a2, mJ] [.ref b0] w = mThen (mK d 160 [.ref b0, .int (mI w a0 5)] w) (fun v w9 => mX (d + 1) 166 44 [.ref a0, .int x1, .ref a2, mJ] (v.toList ++ []) w9) := by
  refine Eq.trans (X_st f_166_38 rfl rfl) ?_
  refine Eq.trans (X_iconst f_166_39 kc_i_5) ?_
  refine Eq.trans (X_iald f_166_40 h0 kn_5 kl_5 h1) ?_
  refine Eq.trans (X_call f_166_41 (by decide) rfl rfl rfl rfl rfl rfl (Nat.le_of_ble_eq_true rfl) (Nat.le_of_ble_eq_true rfl) (decide_eq_true h2) (Nat.le_of_ble_eq_true rfl)) ?_
  exact mThen_eq fun v w9 => mX_mask rfl
theorem b_166_44 {d : Nat} {a0 : Nat} {x1 : Int32} {a2 : Nat} {b0 : Nat} {w : MW} (h0 : mTg w b0 = 12) : mX (d + 1) 166 44 [.ref a0, .int x1, .ref a2, mJ] [.ref b0] w = mThen (mK d 161 [.ref b0] w) (fun v w9 => mX (d + 1) 166 47 [.ref a0, .int x1, .ref a2, mJ] (v.toList ++ []) w9) := by
  refine Eq.trans (X_call f_166_44 (by decide) rfl rfl rfl rfl rfl rfl (Nat.le_of_ble_eq_true rfl) (Nat.le_of_ble_eq_true rfl) (decide_eq_true h0) (Nat.le_of_ble_eq_true rfl)) ?_
  exact mThen_eq fun v w9 => mX_mask rfl
theorem s_166_47_0 {d : Nat} {a0 : Nat} {x1 : Int32} {a2 : Nat} {b0 : Nat} {w : MW} (h0 : mTg w a0 = 50) (h1 : 2 < mLn w a0) (h2 : (mI w a0 2) = (nI 0)) : mX d 166 47 [.ref a0, .int x1, .ref a2, mJ] [.ref b0] w = mX d 166 96 [mJ, .int x1, .ref a2, mJ] [] w := by
  refine Eq.trans (X_astore_n (L' := [.ref a0, .int x1, .ref a2, .ref b0]) f_166_47 (Nat.le_of_ble_eq_true rfl) rfl) ?_
  refine Eq.trans (X_st f_166_48 rfl rfl) ?_
  refine Eq.trans (X_iconst f_166_49 kc_i_2) ?_
  refine Eq.trans (X_iald f_166_50 h0 kn_2 kl_2 h1) ?_
  refine Eq.trans (X_sw f_166_51 rfl (congrArg Value.int h2) rfl) ?_
  exact mX_mask rfl
theorem s_166_47_1 {d : Nat} {a0 : Nat} {x1 : Int32} {a2 : Nat} {b0 : Nat} {w : MW} (h0 : mTg w a0 = 50) (h1 : 2 < mLn w a0) (h2 : (mI w a0 2) = (nI 1)) : mX d 166 47 [.ref a0, .int x1, .ref a2, mJ] [.ref b0] w = mX d 166 125 [mJ, .int x1, .ref a2, mJ] [] w := by
  refine Eq.trans (X_astore_n (L' := [.ref a0, .int x1, .ref a2, .ref b0]) f_166_47 (Nat.le_of_ble_eq_true rfl) rfl) ?_
  refine Eq.trans (X_st f_166_48 rfl rfl) ?_
  refine Eq.trans (X_iconst f_166_49 kc_i_2) ?_
  refine Eq.trans (X_iald f_166_50 h0 kn_2 kl_2 h1) ?_
  refine Eq.trans (X_sw f_166_51 rfl (congrArg Value.int h2) rfl) ?_
  exact mX_mask rfl
theorem s_166_47_2 {d : Nat} {a0 : Nat} {x1 : Int32} {a2 : Nat} {b0 : Nat} {w : MW} (h0 : mTg w a0 = 50) (h1 : 2 < mLn w a0) (h2 : (mI w a0 2) = (nI 2)) : mX d 166 47 [.ref a0, .int x1, .ref a2, mJ] [.ref b0] w = mX d 166 154 [mJ, mJ, .ref a2, mJ] [] w := by
  refine Eq.trans (X_astore_n (L' := [.ref a0, .int x1, .ref a2, .ref b0]) f_166_47 (Nat.le_of_ble_eq_true rfl) rfl) ?_
  refine Eq.trans (X_st f_166_48 rfl rfl) ?_
  refine Eq.trans (X_iconst f_166_49 kc_i_2) ?_
  refine Eq.trans (X_iald f_166_50 h0 kn_2 kl_2 h1) ?_
  refine Eq.trans (X_sw f_166_51 rfl (congrArg Value.int h2) rfl) ?_
  exact mX_mask rfl
theorem s_166_47_3 {d : Nat} {a0 : Nat} {x1 : Int32} {a2 : Nat} {b0 : Nat} {w : MW} (h0 : mTg w a0 = 50) (h1 : 2 < mLn w a0) (h2 : (mI w a0 2) = (nI 3)) : mX d 166 47 [.ref a0, .int x1, .ref a2, mJ] [.ref b0] w = mX d 166 179 [mJ, .int x1, mJ, mJ] [] w := by
  refine Eq.trans (X_astore_n (L' := [.ref a0, .int x1, .ref a2, .ref b0]) f_166_47 (Nat.le_of_ble_eq_true rfl) rfl) ?_
  refine Eq.trans (X_st f_166_48 rfl rfl) ?_
  refine Eq.trans (X_iconst f_166_49 kc_i_2) ?_
  refine Eq.trans (X_iald f_166_50 h0 kn_2 kl_2 h1) ?_
  refine Eq.trans (X_sw f_166_51 rfl (congrArg Value.int h2) rfl) ?_
  exact mX_mask rfl
theorem s_166_47_4 {d : Nat} {a0 : Nat} {x1 : Int32} {a2 : Nat} {b0 : Nat} {w : MW} (h0 : mTg w a0 = 50) (h1 : 2 < mLn w a0) (h2 : (mI w a0 2) = (nI 4)) : mX d 166 47 [.ref a0, .int x1, .ref a2, mJ] [.ref b0] w = mX d 166 199 [mJ, .int x1, .ref a2, mJ] [] w := by
  refine Eq.trans (X_astore_n (L' := [.ref a0, .int x1, .ref a2, .ref b0]) f_166_47 (Nat.le_of_ble_eq_true rfl) rfl) ?_
  refine Eq.trans (X_st f_166_48 rfl rfl) ?_
  refine Eq.trans (X_iconst f_166_49 kc_i_2) ?_
  refine Eq.trans (X_iald f_166_50 h0 kn_2 kl_2 h1) ?_
  refine Eq.trans (X_sw f_166_51 rfl (congrArg Value.int h2) rfl) ?_
  exact mX_mask rfl
theorem s_166_47_5 {d : Nat} {a0 : Nat} {x1 : Int32} {a2 : Nat} {b0 : Nat} {w : MW} (h0 : mTg w a0 = 50) (h1 : 2 < mLn w a0) (h2 : (mI w a0 2) = (nI 5)) : mX d 166 47 [.ref a0, .int x1, .ref a2, mJ] [.ref b0] w = mX d 166 233 [mJ, .int x1, .ref a2, .ref b0] [] w := by
  refine Eq.trans (X_astore_n (L' := [.ref a0, .int x1, .ref a2, .ref b0]) f_166_47 (Nat.le_of_ble_eq_true rfl) rfl) ?_
  refine Eq.trans (X_st f_166_48 rfl rfl) ?_
  refine Eq.trans (X_iconst f_166_49 kc_i_2) ?_
  refine Eq.trans (X_iald f_166_50 h0 kn_2 kl_2 h1) ?_
  refine Eq.trans (X_sw f_166_51 rfl (congrArg Value.int h2) rfl) ?_
  exact mX_mask rfl
theorem s_166_47_6 {d : Nat} {a0 : Nat} {x1 : Int32} {a2 : Nat} {b0 : Nat} {w : MW} (h0 : mTg w a0 = 50) (h1 : 2 < mLn w a0) (h2 : (mI w a0 2) = (nI 6)) : mX d 166 47 [.ref a0, .int x1, .ref a2, mJ] [.ref b0] w = mX d 166 271 [mJ, .int x1, .ref a2, .ref b0] [] w := by
  refine Eq.trans (X_astore_n (L' := [.ref a0, .int x1, .ref a2, .ref b0]) f_166_47 (Nat.le_of_ble_eq_true rfl) rfl) ?_
  refine Eq.trans (X_st f_166_48 rfl rfl) ?_
  refine Eq.trans (X_iconst f_166_49 kc_i_2) ?_
  refine Eq.trans (X_iald f_166_50 h0 kn_2 kl_2 h1) ?_
  refine Eq.trans (X_sw f_166_51 rfl (congrArg Value.int h2) rfl) ?_
  exact mX_mask rfl
theorem s_166_47_7 {d : Nat} {a0 : Nat} {x1 : Int32} {a2 : Nat} {b0 : Nat} {w : MW} (h0 : mTg w a0 = 50) (h1 : 2 < mLn w a0) (h2 : (mI w a0 2) = (nI 7)) : mX d 166 47 [.ref a0, .int x1, .ref a2, mJ] [.ref b0] w = mX d 166 318 [mJ, mJ, mJ, mJ] [] w := by
  refine Eq.trans (X_astore_n (L' := [.ref a0, .int x1, .ref a2, .ref b0]) f_166_47 (Nat.le_of_ble_eq_true rfl) rfl) ?_
  refine Eq.trans (X_st f_166_48 rfl rfl) ?_
  refine Eq.trans (X_iconst f_166_49 kc_i_2) ?_
  refine Eq.trans (X_iald f_166_50 h0 kn_2 kl_2 h1) ?_
  refine Eq.trans (X_sw f_166_51 rfl (congrArg Value.int h2) rfl) ?_
  exact mX_mask rfl
theorem s_166_47_d {d : Nat} {a0 : Nat} {x1 : Int32} {a2 : Nat} {b0 : Nat} {w : MW} (h0 : mTg w a0 = 50) (h1 : 2 < mLn w a0) (h2 : ((mI w a0 2)).toInt < 0 ∨ 7 < ((mI w a0 2)).toInt) : mX d 166 47 [.ref a0, .int x1, .ref a2, mJ] [.ref b0] w = mX d 166 321 [mJ, .int x1, .ref a2, mJ] [] w := by
  refine Eq.trans (X_astore_n (L' := [.ref a0, .int x1, .ref a2, .ref b0]) f_166_47 (Nat.le_of_ble_eq_true rfl) rfl) ?_
  refine Eq.trans (X_st f_166_48 rfl rfl) ?_
  refine Eq.trans (X_iconst f_166_49 kc_i_2) ?_
  refine Eq.trans (X_iald f_166_50 h0 kn_2 kl_2 h1) ?_
  refine Eq.trans (X_swD f_166_51 h2 rfl) ?_
  exact mX_mask rfl
theorem b_166_96 {d : Nat} {x1 : Int32} {a2 : Nat} {w : MW} : mX d 166 96 [mJ, .int x1, .ref a2, mJ] [] w = mX d 166 99 [mJ, .int x1, .ref a2, mJ] [.ref (mSz w)] (wN w 12 0 (mNf 12)) := by
  refine Eq.trans (X_new f_166_96 (Nat.le_of_ble_eq_true rfl)) ?_
  exact mX_mask rfl
theorem b_166_99 {d : Nat} {x1 : Int32} {a2 : Nat} {b0 : Nat} {w : MW} (h0 : mE ≤ b0) : mX (d + 1) 166 99 [mJ, .int x1, .ref a2, mJ] [.ref b0] w = mThen (mK d 158 [.ref b0] w) (fun v w9 => mX (d + 1) 166 103 [mJ, .int x1, .ref a2, mJ] (v.toList ++ [.ref b0]) w9) := by
  refine Eq.trans (X_dup f_166_99 rfl) ?_
  refine Eq.trans (X_call f_166_100 (by decide) rfl rfl rfl rfl rfl rfl (Nat.le_of_ble_eq_true rfl) (Nat.le_of_ble_eq_true rfl) (decide_eq_true h0) (Nat.le_of_ble_eq_true rfl)) ?_
  exact mThen_eq fun v w9 => mX_mask rfl
theorem b_166_103 {d : Nat} {x1 : Int32} {a2 : Nat} {b0 : Nat} {w : MW} (h0 : mTg w b0 = 12) : mX (d + 1) 166 103 [mJ, .int x1, .ref a2, mJ] [.ref b0] w = mThen (mK d 159 [.ref b0, .ref 74] w) (fun v w9 => mX (d + 1) 166 108 [mJ, .int x1, .ref a2, mJ] (v.toList ++ []) w9) := by
  refine Eq.trans (X_st f_166_103 rfl rfl) ?_
  refine Eq.trans (X_call f_166_105 (by decide) rfl rfl rfl rfl rfl rfl (Nat.le_of_ble_eq_true rfl) (Nat.le_of_ble_eq_true rfl) (decide_eq_true h0) (Nat.le_of_ble_eq_true rfl)) ?_
  exact mThen_eq fun v w9 => mX_mask rfl
theorem b_166_108 {d : Nat} {x1 : Int32} {a2 : Nat} {b0 : Nat} {w : MW} (h0 : mTg w b0 = 12) : mX (d + 1) 166 108 [mJ, .int x1, .ref a2, mJ] [.ref b0] w = mThen (mK d 159 [.ref b0, .ref a2] w) (fun v w9 => mX (d + 1) 166 112 [mJ, .int x1, mJ, mJ] (v.toList ++ []) w9) := by
  refine Eq.trans (X_st f_166_108 rfl rfl) ?_
  refine Eq.trans (X_call f_166_109 (by decide) rfl rfl rfl rfl rfl rfl (Nat.le_of_ble_eq_true rfl) (Nat.le_of_ble_eq_true rfl) (decide_eq_true h0) (Nat.le_of_ble_eq_true rfl)) ?_
  exact mThen_eq fun v w9 => mX_mask rfl
theorem b_166_112 {d : Nat} {x1 : Int32} {b0 : Nat} {w : MW} (h0 : mTg w b0 = 12) : mX (d + 1) 166 112 [mJ, .int x1, mJ, mJ] [.ref b0] w = mThen (mK d 159 [.ref b0, .ref 76] w) (fun v w9 => mX (d + 1) 166 117 [mJ, .int x1, mJ, mJ] (v.toList ++ []) w9) := by
  refine Eq.trans (X_st f_166_112 rfl rfl) ?_
  refine Eq.trans (X_call f_166_114 (by decide) rfl rfl rfl rfl rfl rfl (Nat.le_of_ble_eq_true rfl) (Nat.le_of_ble_eq_true rfl) (decide_eq_true h0) (Nat.le_of_ble_eq_true rfl)) ?_
  exact mThen_eq fun v w9 => mX_mask rfl
theorem b_166_117 {d : Nat} {x1 : Int32} {b0 : Nat} {w : MW} (h0 : mTg w b0 = 12) : mX (d + 1) 166 117 [mJ, .int x1, mJ, mJ] [.ref b0] w = mThen (mK d 160 [.ref b0, .int x1] w) (fun v w9 => mX (d + 1) 166 121 [mJ, mJ, mJ, mJ] (v.toList ++ []) w9) := by
  refine Eq.trans (X_st f_166_117 rfl rfl) ?_
  refine Eq.trans (X_call f_166_118 (by decide) rfl rfl rfl rfl rfl rfl (Nat.le_of_ble_eq_true rfl) (Nat.le_of_ble_eq_true rfl) (decide_eq_true h0) (Nat.le_of_ble_eq_true rfl)) ?_
  exact mThen_eq fun v w9 => mX_mask rfl
theorem b_166_121 {d : Nat} {b0 : Nat} {w : MW} (h0 : mTg w b0 = 12) : mX (d + 1) 166 121 [mJ, mJ, mJ, mJ] [.ref b0] w = mThen (mK d 161 [.ref b0] w) (fun v w9 => mX (d + 1) 166 124 [mJ, mJ, mJ, mJ] (v.toList ++ []) w9) := by
  refine Eq.trans (X_call f_166_121 (by decide) rfl rfl rfl rfl rfl rfl (Nat.le_of_ble_eq_true rfl) (Nat.le_of_ble_eq_true rfl) (decide_eq_true h0) (Nat.le_of_ble_eq_true rfl)) ?_
  exact mThen_eq fun v w9 => mX_mask rfl
theorem b_166_124 {d : Nat} {b0 : Nat} {w : MW} : mX d 166 124 [mJ, mJ, mJ, mJ] [.ref b0] w = some (.inl (some (.ref b0)), w) := by
  exact X_ret f_166_124 rfl rfl
theorem b_166_125 {d : Nat} {x1 : Int32} {a2 : Nat} {w : MW} : mX d 166 125 [mJ, .int x1, .ref a2, mJ] [] w = mX d 166 128 [mJ, .int x1, .ref a2, mJ] [.ref (mSz w)] (wN w 12 0 (mNf 12)) := by
  refine Eq.trans (X_new f_166_125 (Nat.le_of_ble_eq_true rfl)) ?_
  exact mX_mask rfl
theorem b_166_128 {d : Nat} {x1 : Int32} {a2 : Nat} {b0 : Nat} {w : MW} (h0 : mE ≤ b0) : mX (d + 1) 166 128 [mJ, .int x1, .ref a2, mJ] [.ref b0] w = mThen (mK d 158 [.ref b0] w) (fun v w9 => mX (d + 1) 166 132 [mJ, .int x1, .ref a2, mJ] (v.toList ++ [.ref b0]) w9) := by
  refine Eq.trans (X_dup f_166_128 rfl) ?_
  refine Eq.trans (X_call f_166_129 (by decide) rfl rfl rfl rfl rfl rfl (Nat.le_of_ble_eq_true rfl) (Nat.le_of_ble_eq_true rfl) (decide_eq_true h0) (Nat.le_of_ble_eq_true rfl)) ?_
  exact mThen_eq fun v w9 => mX_mask rfl
theorem b_166_132 {d : Nat} {x1 : Int32} {a2 : Nat} {b0 : Nat} {w : MW} (h0 : mTg w b0 = 12) : mX (d + 1) 166 132 [mJ, .int x1, .ref a2, mJ] [.ref b0] w = mThen (mK d 159 [.ref b0, .ref 78] w) (fun v w9 => mX (d + 1) 166 137 [mJ, .int x1, .ref a2, mJ] (v.toList ++ []) w9) := by
  refine Eq.trans (X_st f_166_132 rfl rfl) ?_
  refine Eq.trans (X_call f_166_134 (by decide) rfl rfl rfl rfl rfl rfl (Nat.le_of_ble_eq_true rfl) (Nat.le_of_ble_eq_true rfl) (decide_eq_true h0) (Nat.le_of_ble_eq_true rfl)) ?_
  exact mThen_eq fun v w9 => mX_mask rfl
theorem b_166_137 {d : Nat} {x1 : Int32} {a2 : Nat} {b0 : Nat} {w : MW} (h0 : mTg w b0 = 12) : mX (d + 1) 166 137 [mJ, .int x1, .ref a2, mJ] [.ref b0] w = mThen (mK d 159 [.ref b0, .ref a2] w) (fun v w9 => mX (d + 1) 166 141 [mJ, .int x1, mJ, mJ] (v.toList ++ []) w9) := by
  refine Eq.trans (X_st f_166_137 rfl rfl) ?_
  refine Eq.trans (X_call f_166_138 (by decide) rfl rfl rfl rfl rfl rfl (Nat.le_of_ble_eq_true rfl) (Nat.le_of_ble_eq_true rfl) (decide_eq_true h0) (Nat.le_of_ble_eq_true rfl)) ?_
  exact mThen_eq fun v w9 => mX_mask rfl
theorem b_166_141 {d : Nat} {x1 : Int32} {b0 : Nat} {w : MW} (h0 : mTg w b0 = 12) : mX (d + 1) 166 141 [mJ, .int x1, mJ, mJ] [.ref b0] w = mThen (mK d 159 [.ref b0, .ref 80] w) (fun v w9 => mX (d + 1) 166 146 [mJ, .int x1, mJ, mJ] (v.toList ++ []) w9) := by
  refine Eq.trans (X_st f_166_141 rfl rfl) ?_
  refine Eq.trans (X_call f_166_143 (by decide) rfl rfl rfl rfl rfl rfl (Nat.le_of_ble_eq_true rfl) (Nat.le_of_ble_eq_true rfl) (decide_eq_true h0) (Nat.le_of_ble_eq_true rfl)) ?_
  exact mThen_eq fun v w9 => mX_mask rfl
theorem b_166_146 {d : Nat} {x1 : Int32} {b0 : Nat} {w : MW} (h0 : mTg w b0 = 12) : mX (d + 1) 166 146 [mJ, .int x1, mJ, mJ] [.ref b0] w = mThen (mK d 160 [.ref b0, .int x1] w) (fun v w9 => mX (d + 1) 166 150 [mJ, mJ, mJ, mJ] (v.toList ++ []) w9) := by
  refine Eq.trans (X_st f_166_146 rfl rfl) ?_
  refine Eq.trans (X_call f_166_147 (by decide) rfl rfl rfl rfl rfl rfl (Nat.le_of_ble_eq_true rfl) (Nat.le_of_ble_eq_true rfl) (decide_eq_true h0) (Nat.le_of_ble_eq_true rfl)) ?_
  exact mThen_eq fun v w9 => mX_mask rfl
theorem b_166_150 {d : Nat} {b0 : Nat} {w : MW} (h0 : mTg w b0 = 12) : mX (d + 1) 166 150 [mJ, mJ, mJ, mJ] [.ref b0] w = mThen (mK d 161 [.ref b0] w) (fun v w9 => mX (d + 1) 166 153 [mJ, mJ, mJ, mJ] (v.toList ++ []) w9) := by
  refine Eq.trans (X_call f_166_150 (by decide) rfl rfl rfl rfl rfl rfl (Nat.le_of_ble_eq_true rfl) (Nat.le_of_ble_eq_true rfl) (decide_eq_true h0) (Nat.le_of_ble_eq_true rfl)) ?_
  exact mThen_eq fun v w9 => mX_mask rfl
theorem b_166_153 {d : Nat} {b0 : Nat} {w : MW} : mX d 166 153 [mJ, mJ, mJ, mJ] [.ref b0] w = some (.inl (some (.ref b0)), w) := by
  exact X_ret f_166_153 rfl rfl
theorem b_166_154 {d : Nat} {a2 : Nat} {w : MW} : mX d 166 154 [mJ, mJ, .ref a2, mJ] [] w = mX d 166 157 [mJ, mJ, .ref a2, mJ] [.ref (mSz w)] (wN w 12 0 (mNf 12)) := by
  refine Eq.trans (X_new f_166_154 (Nat.le_of_ble_eq_true rfl)) ?_
  exact mX_mask rfl
theorem b_166_157 {d : Nat} {a2 : Nat} {b0 : Nat} {w : MW} (h0 : mE ≤ b0) : mX (d + 1) 166 157 [mJ, mJ, .ref a2, mJ] [.ref b0] w = mThen (mK d 158 [.ref b0] w) (fun v w9 => mX (d + 1) 166 161 [mJ, mJ, .ref a2, mJ] (v.toList ++ [.ref b0]) w9) := by
  refine Eq.trans (X_dup f_166_157 rfl) ?_
  refine Eq.trans (X_call f_166_158 (by decide) rfl rfl rfl rfl rfl rfl (Nat.le_of_ble_eq_true rfl) (Nat.le_of_ble_eq_true rfl) (decide_eq_true h0) (Nat.le_of_ble_eq_true rfl)) ?_
  exact mThen_eq fun v w9 => mX_mask rfl
theorem b_166_161 {d : Nat} {a2 : Nat} {b0 : Nat} {w : MW} (h0 : mTg w b0 = 12) : mX (d + 1) 166 161 [mJ, mJ, .ref a2, mJ] [.ref b0] w = mThen (mK d 159 [.ref b0, .ref 82] w) (fun v w9 => mX (d + 1) 166 166 [mJ, mJ, .ref a2, mJ] (v.toList ++ []) w9) := by
  refine Eq.trans (X_st f_166_161 rfl rfl) ?_
  refine Eq.trans (X_call f_166_163 (by decide) rfl rfl rfl rfl rfl rfl (Nat.le_of_ble_eq_true rfl) (Nat.le_of_ble_eq_true rfl) (decide_eq_true h0) (Nat.le_of_ble_eq_true rfl)) ?_
  exact mThen_eq fun v w9 => mX_mask rfl
theorem b_166_166 {d : Nat} {a2 : Nat} {b0 : Nat} {w : MW} (h0 : mTg w b0 = 12) : mX (d + 1) 166 166 [mJ, mJ, .ref a2, mJ] [.ref b0] w = mThen (mK d 159 [.ref b0, .ref a2] w) (fun v w9 => mX (d + 1) 166 170 [mJ, mJ, mJ, mJ] (v.toList ++ []) w9) := by
  refine Eq.trans (X_st f_166_166 rfl rfl) ?_
  refine Eq.trans (X_call f_166_167 (by decide) rfl rfl rfl rfl rfl rfl (Nat.le_of_ble_eq_true rfl) (Nat.le_of_ble_eq_true rfl) (decide_eq_true h0) (Nat.le_of_ble_eq_true rfl)) ?_
  exact mThen_eq fun v w9 => mX_mask rfl
theorem b_166_170 {d : Nat} {b0 : Nat} {w : MW} (h0 : mTg w b0 = 12) : mX (d + 1) 166 170 [mJ, mJ, mJ, mJ] [.ref b0] w = mThen (mK d 159 [.ref b0, .ref 84] w) (fun v w9 => mX (d + 1) 166 175 [mJ, mJ, mJ, mJ] (v.toList ++ []) w9) := by
  refine Eq.trans (X_st f_166_170 rfl rfl) ?_
  refine Eq.trans (X_call f_166_172 (by decide) rfl rfl rfl rfl rfl rfl (Nat.le_of_ble_eq_true rfl) (Nat.le_of_ble_eq_true rfl) (decide_eq_true h0) (Nat.le_of_ble_eq_true rfl)) ?_
  exact mThen_eq fun v w9 => mX_mask rfl
theorem b_166_175 {d : Nat} {b0 : Nat} {w : MW} (h0 : mTg w b0 = 12) : mX (d + 1) 166 175 [mJ, mJ, mJ, mJ] [.ref b0] w = mThen (mK d 161 [.ref b0] w) (fun v w9 => mX (d + 1) 166 178 [mJ, mJ, mJ, mJ] (v.toList ++ []) w9) := by
  refine Eq.trans (X_call f_166_175 (by decide) rfl rfl rfl rfl rfl rfl (Nat.le_of_ble_eq_true rfl) (Nat.le_of_ble_eq_true rfl) (decide_eq_true h0) (Nat.le_of_ble_eq_true rfl)) ?_
  exact mThen_eq fun v w9 => mX_mask rfl
theorem b_166_178 {d : Nat} {b0 : Nat} {w : MW} : mX d 166 178 [mJ, mJ, mJ, mJ] [.ref b0] w = some (.inl (some (.ref b0)), w) := by
  exact X_ret f_166_178 rfl rfl
theorem b_166_179 {d : Nat} {x1 : Int32} {w : MW} : mX d 166 179 [mJ, .int x1, mJ, mJ] [] w = mX d 166 182 [mJ, .int x1, mJ, mJ] [.ref (mSz w)] (wN w 12 0 (mNf 12)) := by
  refine Eq.trans (X_new f_166_179 (Nat.le_of_ble_eq_true rfl)) ?_
  exact mX_mask rfl
theorem b_166_182 {d : Nat} {x1 : Int32} {b0 : Nat} {w : MW} (h0 : mE ≤ b0) : mX (d + 1) 166 182 [mJ, .int x1, mJ, mJ] [.ref b0] w = mThen (mK d 158 [.ref b0] w) (fun v w9 => mX (d + 1) 166 186 [mJ, .int x1, mJ, mJ] (v.toList ++ [.ref b0]) w9) := by
  refine Eq.trans (X_dup f_166_182 rfl) ?_
  refine Eq.trans (X_call f_166_183 (by decide) rfl rfl rfl rfl rfl rfl (Nat.le_of_ble_eq_true rfl) (Nat.le_of_ble_eq_true rfl) (decide_eq_true h0) (Nat.le_of_ble_eq_true rfl)) ?_
  exact mThen_eq fun v w9 => mX_mask rfl
theorem b_166_186 {d : Nat} {x1 : Int32} {b0 : Nat} {w : MW} (h0 : mTg w b0 = 12) : mX (d + 1) 166 186 [mJ, .int x1, mJ, mJ] [.ref b0] w = mThen (mK d 159 [.ref b0, .ref 86] w) (fun v w9 => mX (d + 1) 166 191 [mJ, .int x1, mJ, mJ] (v.toList ++ []) w9) := by
  refine Eq.trans (X_st f_166_186 rfl rfl) ?_
  refine Eq.trans (X_call f_166_188 (by decide) rfl rfl rfl rfl rfl rfl (Nat.le_of_ble_eq_true rfl) (Nat.le_of_ble_eq_true rfl) (decide_eq_true h0) (Nat.le_of_ble_eq_true rfl)) ?_
  exact mThen_eq fun v w9 => mX_mask rfl
theorem b_166_191 {d : Nat} {x1 : Int32} {b0 : Nat} {w : MW} (h0 : mTg w b0 = 12) : mX (d + 1) 166 191 [mJ, .int x1, mJ, mJ] [.ref b0] w = mThen (mK d 160 [.ref b0, .int x1] w) (fun v w9 => mX (d + 1) 166 195 [mJ, mJ, mJ, mJ] (v.toList ++ []) w9) := by
  refine Eq.trans (X_st f_166_191 rfl rfl) ?_
  refine Eq.trans (X_call f_166_192 (by decide) rfl rfl rfl rfl rfl rfl (Nat.le_of_ble_eq_true rfl) (Nat.le_of_ble_eq_true rfl) (decide_eq_true h0) (Nat.le_of_ble_eq_true rfl)) ?_
  exact mThen_eq fun v w9 => mX_mask rfl
theorem b_166_195 {d : Nat} {b0 : Nat} {w : MW} (h0 : mTg w b0 = 12) : mX (d + 1) 166 195 [mJ, mJ, mJ, mJ] [.ref b0] w = mThen (mK d 161 [.ref b0] w) (fun v w9 => mX (d + 1) 166 198 [mJ, mJ, mJ, mJ] (v.toList ++ []) w9) := by
  refine Eq.trans (X_call f_166_195 (by decide) rfl rfl rfl rfl rfl rfl (Nat.le_of_ble_eq_true rfl) (Nat.le_of_ble_eq_true rfl) (decide_eq_true h0) (Nat.le_of_ble_eq_true rfl)) ?_
  exact mThen_eq fun v w9 => mX_mask rfl
theorem b_166_198 {d : Nat} {b0 : Nat} {w : MW} : mX d 166 198 [mJ, mJ, mJ, mJ] [.ref b0] w = some (.inl (some (.ref b0)), w) := by
  exact X_ret f_166_198 rfl rfl
theorem b_166_199 {d : Nat} {x1 : Int32} {a2 : Nat} {w : MW} : mX d 166 199 [mJ, .int x1, .ref a2, mJ] [] w = mX d 166 202 [mJ, .int x1, .ref a2, mJ] [.ref (mSz w)] (wN w 12 0 (mNf 12)) := by
  refine Eq.trans (X_new f_166_199 (Nat.le_of_ble_eq_true rfl)) ?_
  exact mX_mask rfl
theorem b_166_202 {d : Nat} {x1 : Int32} {a2 : Nat} {b0 : Nat} {w : MW} (h0 : mE ≤ b0) : mX (d + 1) 166 202 [mJ, .int x1, .ref a2, mJ] [.ref b0] w = mThen (mK d 158 [.ref b0] w) (fun v w9 => mX (d + 1) 166 206 [mJ, .int x1, .ref a2, mJ] (v.toList ++ [.ref b0]) w9) := by
  refine Eq.trans (X_dup f_166_202 rfl) ?_
  refine Eq.trans (X_call f_166_203 (by decide) rfl rfl rfl rfl rfl rfl (Nat.le_of_ble_eq_true rfl) (Nat.le_of_ble_eq_true rfl) (decide_eq_true h0) (Nat.le_of_ble_eq_true rfl)) ?_
  exact mThen_eq fun v w9 => mX_mask rfl
theorem b_166_206 {d : Nat} {x1 : Int32} {a2 : Nat} {b0 : Nat} {w : MW} (h0 : mTg w b0 = 12) : mX (d + 1) 166 206 [mJ, .int x1, .ref a2, mJ] [.ref b0] w = mThen (mK d 159 [.ref b0, .ref 88] w) (fun v w9 => mX (d + 1) 166 211 [mJ, .int x1, .ref a2, mJ] (v.toList ++ []) w9) := by
  refine Eq.trans (X_st f_166_206 rfl rfl) ?_
  refine Eq.trans (X_call f_166_208 (by decide) rfl rfl rfl rfl rfl rfl (Nat.le_of_ble_eq_true rfl) (Nat.le_of_ble_eq_true rfl) (decide_eq_true h0) (Nat.le_of_ble_eq_true rfl)) ?_
  exact mThen_eq fun v w9 => mX_mask rfl
theorem b_166_211 {d : Nat} {x1 : Int32} {a2 : Nat} {b0 : Nat} {w : MW} (h0 : mTg w b0 = 12) : mX (d + 1) 166 211 [mJ, .int x1, .ref a2, mJ] [.ref b0] w = mThen (mK d 160 [.ref b0, .int x1] w) (fun v w9 => mX (d + 1) 166 215 [mJ, mJ, .ref a2, mJ] (v.toList ++ []) w9) := by
  refine Eq.trans (X_st f_166_211 rfl rfl) ?_
  refine Eq.trans (X_call f_166_212 (by decide) rfl rfl rfl rfl rfl rfl (Nat.le_of_ble_eq_true rfl) (Nat.le_of_ble_eq_true rfl) (decide_eq_true h0) (Nat.le_of_ble_eq_true rfl)) ?_
  exact mThen_eq fun v w9 => mX_mask rfl
theorem b_166_215 {d : Nat} {a2 : Nat} {b0 : Nat} {w : MW} (h0 : mTg w b0 = 12) : mX (d + 1) 166 215 [mJ, mJ, .ref a2, mJ] [.ref b0] w = mThen (mK d 159 [.ref b0, .ref 90] w) (fun v w9 => mX (d + 1) 166 220 [mJ, mJ, .ref a2, mJ] (v.toList ++ []) w9) := by
  refine Eq.trans (X_st f_166_215 rfl rfl) ?_
  refine Eq.trans (X_call f_166_217 (by decide) rfl rfl rfl rfl rfl rfl (Nat.le_of_ble_eq_true rfl) (Nat.le_of_ble_eq_true rfl) (decide_eq_true h0) (Nat.le_of_ble_eq_true rfl)) ?_
  exact mThen_eq fun v w9 => mX_mask rfl
theorem b_166_220 {d : Nat} {a2 : Nat} {b0 : Nat} {w : MW} (h0 : mTg w b0 = 12) : mX (d + 1) 166 220 [mJ, mJ, .ref a2, mJ] [.ref b0] w = mThen (mK d 159 [.ref b0, .ref a2] w) (fun v w9 => mX (d + 1) 166 224 [mJ, mJ, mJ, mJ] (v.toList ++ []) w9) := by
  refine Eq.trans (X_st f_166_220 rfl rfl) ?_
  refine Eq.trans (X_call f_166_221 (by decide) rfl rfl rfl rfl rfl rfl (Nat.le_of_ble_eq_true rfl) (Nat.le_of_ble_eq_true rfl) (decide_eq_true h0) (Nat.le_of_ble_eq_true rfl)) ?_
  exact mThen_eq fun v w9 => mX_mask rfl
theorem b_166_224 {d : Nat} {b0 : Nat} {w : MW} (h0 : mTg w b0 = 12) : mX (d + 1) 166 224 [mJ, mJ, mJ, mJ] [.ref b0] w = mThen (mK d 159 [.ref b0, .ref 92] w) (fun v w9 => mX (d + 1) 166 229 [mJ, mJ, mJ, mJ] (v.toList ++ []) w9) := by
  refine Eq.trans (X_st f_166_224 rfl rfl) ?_
  refine Eq.trans (X_call f_166_226 (by decide) rfl rfl rfl rfl rfl rfl (Nat.le_of_ble_eq_true rfl) (Nat.le_of_ble_eq_true rfl) (decide_eq_true h0) (Nat.le_of_ble_eq_true rfl)) ?_
  exact mThen_eq fun v w9 => mX_mask rfl
theorem b_166_229 {d : Nat} {b0 : Nat} {w : MW} (h0 : mTg w b0 = 12) : mX (d + 1) 166 229 [mJ, mJ, mJ, mJ] [.ref b0] w = mThen (mK d 161 [.ref b0] w) (fun v w9 => mX (d + 1) 166 232 [mJ, mJ, mJ, mJ] (v.toList ++ []) w9) := by
  refine Eq.trans (X_call f_166_229 (by decide) rfl rfl rfl rfl rfl rfl (Nat.le_of_ble_eq_true rfl) (Nat.le_of_ble_eq_true rfl) (decide_eq_true h0) (Nat.le_of_ble_eq_true rfl)) ?_
  exact mThen_eq fun v w9 => mX_mask rfl
theorem b_166_232 {d : Nat} {b0 : Nat} {w : MW} : mX d 166 232 [mJ, mJ, mJ, mJ] [.ref b0] w = some (.inl (some (.ref b0)), w) := by
  exact X_ret f_166_232 rfl rfl
theorem b_166_233 {d : Nat} {x1 : Int32} {a2 : Nat} {a3 : Nat} {w : MW} : mX d 166 233 [mJ, .int x1, .ref a2, .ref a3] [] w = mX d 166 236 [mJ, .int x1, .ref a2, .ref a3] [.ref (mSz w)] (wN w 12 0 (mNf 12)) := by
  refine Eq.trans (X_new f_166_233 (Nat.le_of_ble_eq_true rfl)) ?_
  exact mX_mask rfl
theorem b_166_236 {d : Nat} {x1 : Int32} {a2 : Nat} {a3 : Nat} {b0 : Nat} {w : MW} (h0 : mE ≤ b0) : mX (d + 1) 166 236 [mJ, .int x1, .ref a2, .ref a3] [.ref b0] w = mThen (mK d 158 [.ref b0] w) (fun v w9 => mX (d + 1) 166 240 [mJ, .int x1, .ref a2, .ref a3] (v.toList ++ [.ref b0]) w9) := by
  refine Eq.trans (X_dup f_166_236 rfl) ?_
  refine Eq.trans (X_call f_166_237 (by decide) rfl rfl rfl rfl rfl rfl (Nat.le_of_ble_eq_true rfl) (Nat.le_of_ble_eq_true rfl) (decide_eq_true h0) (Nat.le_of_ble_eq_true rfl)) ?_
  exact mThen_eq fun v w9 => mX_mask rfl
theorem b_166_240 {d : Nat} {x1 : Int32} {a2 : Nat} {a3 : Nat} {b0 : Nat} {w : MW} (h0 : mTg w b0 = 12) : mX (d + 1) 166 240 [mJ, .int x1, .ref a2, .ref a3] [.ref b0] w = mThen (mK d 159 [.ref b0, .ref 94] w) (fun v w9 => mX (d + 1) 166 245 [mJ, .int x1, .ref a2, .ref a3] (v.toList ++ []) w9) := by
  refine Eq.trans (X_st f_166_240 rfl rfl) ?_
  refine Eq.trans (X_call f_166_242 (by decide) rfl rfl rfl rfl rfl rfl (Nat.le_of_ble_eq_true rfl) (Nat.le_of_ble_eq_true rfl) (decide_eq_true h0) (Nat.le_of_ble_eq_true rfl)) ?_
  exact mThen_eq fun v w9 => mX_mask rfl
theorem b_166_245 {d : Nat} {x1 : Int32} {a2 : Nat} {a3 : Nat} {b0 : Nat} {w : MW} (h0 : mTg w b0 = 12) : mX (d + 1) 166 245 [mJ, .int x1, .ref a2, .ref a3] [.ref b0] w = mThen (mK d 159 [.ref b0, .ref a2] w) (fun v w9 => mX (d + 1) 166 249 [mJ, .int x1, mJ, .ref a3] (v.toList ++ []) w9) := by
  refine Eq.trans (X_st f_166_245 rfl rfl) ?_
  refine Eq.trans (X_call f_166_246 (by decide) rfl rfl rfl rfl rfl rfl (Nat.le_of_ble_eq_true rfl) (Nat.le_of_ble_eq_true rfl) (decide_eq_true h0) (Nat.le_of_ble_eq_true rfl)) ?_
  exact mThen_eq fun v w9 => mX_mask rfl
theorem b_166_249 {d : Nat} {x1 : Int32} {a3 : Nat} {b0 : Nat} {w : MW} (h0 : mTg w b0 = 12) : mX (d + 1) 166 249 [mJ, .int x1, mJ, .ref a3] [.ref b0] w = mThen (mK d 159 [.ref b0, .ref 96] w) (fun v w9 => mX (d + 1) 166 254 [mJ, .int x1, mJ, .ref a3] (v.toList ++ []) w9) := by
  refine Eq.trans (X_st f_166_249 rfl rfl) ?_
  refine Eq.trans (X_call f_166_251 (by decide) rfl rfl rfl rfl rfl rfl (Nat.le_of_ble_eq_true rfl) (Nat.le_of_ble_eq_true rfl) (decide_eq_true h0) (Nat.le_of_ble_eq_true rfl)) ?_
  exact mThen_eq fun v w9 => mX_mask rfl
theorem b_166_254 {d : Nat} {x1 : Int32} {a3 : Nat} {b0 : Nat} {w : MW} (h0 : mTg w b0 = 12) : mX (d + 1) 166 254 [mJ, .int x1, mJ, .ref a3] [.ref b0] w = mThen (mK d 159 [.ref b0, .ref a3] w) (fun v w9 => mX (d + 1) 166 258 [mJ, .int x1, mJ, mJ] (v.toList ++ []) w9) := by
  refine Eq.trans (X_st f_166_254 rfl rfl) ?_
  refine Eq.trans (X_call f_166_255 (by decide) rfl rfl rfl rfl rfl rfl (Nat.le_of_ble_eq_true rfl) (Nat.le_of_ble_eq_true rfl) (decide_eq_true h0) (Nat.le_of_ble_eq_true rfl)) ?_
  exact mThen_eq fun v w9 => mX_mask rfl
theorem b_166_258 {d : Nat} {x1 : Int32} {b0 : Nat} {w : MW} (h0 : mTg w b0 = 12) : mX (d + 1) 166 258 [mJ, .int x1, mJ, mJ] [.ref b0] w = mThen (mK d 159 [.ref b0, .ref 76] w) (fun v w9 => mX (d + 1) 166 263 [mJ, .int x1, mJ, mJ] (v.toList ++ []) w9) := by
  refine Eq.trans (X_st f_166_258 rfl rfl) ?_
  refine Eq.trans (X_call f_166_260 (by decide) rfl rfl rfl rfl rfl rfl (Nat.le_of_ble_eq_true rfl) (Nat.le_of_ble_eq_true rfl) (decide_eq_true h0) (Nat.le_of_ble_eq_true rfl)) ?_
  exact mThen_eq fun v w9 => mX_mask rfl
theorem b_166_263 {d : Nat} {x1 : Int32} {b0 : Nat} {w : MW} (h0 : mTg w b0 = 12) : mX (d + 1) 166 263 [mJ, .int x1, mJ, mJ] [.ref b0] w = mThen (mK d 160 [.ref b0, .int x1] w) (fun v w9 => mX (d + 1) 166 267 [mJ, mJ, mJ, mJ] (v.toList ++ []) w9) := by
  refine Eq.trans (X_st f_166_263 rfl rfl) ?_
  refine Eq.trans (X_call f_166_264 (by decide) rfl rfl rfl rfl rfl rfl (Nat.le_of_ble_eq_true rfl) (Nat.le_of_ble_eq_true rfl) (decide_eq_true h0) (Nat.le_of_ble_eq_true rfl)) ?_
  exact mThen_eq fun v w9 => mX_mask rfl
theorem b_166_267 {d : Nat} {b0 : Nat} {w : MW} (h0 : mTg w b0 = 12) : mX (d + 1) 166 267 [mJ, mJ, mJ, mJ] [.ref b0] w = mThen (mK d 161 [.ref b0] w) (fun v w9 => mX (d + 1) 166 270 [mJ, mJ, mJ, mJ] (v.toList ++ []) w9) := by
  refine Eq.trans (X_call f_166_267 (by decide) rfl rfl rfl rfl rfl rfl (Nat.le_of_ble_eq_true rfl) (Nat.le_of_ble_eq_true rfl) (decide_eq_true h0) (Nat.le_of_ble_eq_true rfl)) ?_
  exact mThen_eq fun v w9 => mX_mask rfl
theorem b_166_270 {d : Nat} {b0 : Nat} {w : MW} : mX d 166 270 [mJ, mJ, mJ, mJ] [.ref b0] w = some (.inl (some (.ref b0)), w) := by
  exact X_ret f_166_270 rfl rfl
theorem b_166_271 {d : Nat} {x1 : Int32} {a2 : Nat} {a3 : Nat} {w : MW} : mX d 166 271 [mJ, .int x1, .ref a2, .ref a3] [] w = mX d 166 274 [mJ, .int x1, .ref a2, .ref a3] [.ref (mSz w)] (wN w 12 0 (mNf 12)) := by
  refine Eq.trans (X_new f_166_271 (Nat.le_of_ble_eq_true rfl)) ?_
  exact mX_mask rfl
theorem b_166_274 {d : Nat} {x1 : Int32} {a2 : Nat} {a3 : Nat} {b0 : Nat} {w : MW} (h0 : mE ≤ b0) : mX (d + 1) 166 274 [mJ, .int x1, .ref a2, .ref a3] [.ref b0] w = mThen (mK d 158 [.ref b0] w) (fun v w9 => mX (d + 1) 166 278 [mJ, .int x1, .ref a2, .ref a3] (v.toList ++ [.ref b0]) w9) := by
  refine Eq.trans (X_dup f_166_274 rfl) ?_
  refine Eq.trans (X_call f_166_275 (by decide) rfl rfl rfl rfl rfl rfl (Nat.le_of_ble_eq_true rfl) (Nat.le_of_ble_eq_true rfl) (decide_eq_true h0) (Nat.le_of_ble_eq_true rfl)) ?_
  exact mThen_eq fun v w9 => mX_mask rfl
theorem b_166_278 {d : Nat} {x1 : Int32} {a2 : Nat} {a3 : Nat} {b0 : Nat} {w : MW} (h0 : mTg w b0 = 12) : mX (d + 1) 166 278 [mJ, .int x1, .ref a2, .ref a3] [.ref b0] w = mThen (mK d 159 [.ref b0, .ref 98] w) (fun v w9 => mX (d + 1) 166 283 [mJ, .int x1, .ref a2, .ref a3] (v.toList ++ []) w9) := by
  refine Eq.trans (X_st f_166_278 rfl rfl) ?_
  refine Eq.trans (X_call f_166_280 (by decide) rfl rfl rfl rfl rfl rfl (Nat.le_of_ble_eq_true rfl) (Nat.le_of_ble_eq_true rfl) (decide_eq_true h0) (Nat.le_of_ble_eq_true rfl)) ?_
  exact mThen_eq fun v w9 => mX_mask rfl
theorem b_166_283 {d : Nat} {x1 : Int32} {a2 : Nat} {a3 : Nat} {b0 : Nat} {w : MW} (h0 : mTg w b0 = 12) : mX (d + 1) 166 283 [mJ, .int x1, .ref a2, .ref a3] [.ref b0] w = mThen (mK d 159 [.ref b0, .ref a2] w) (fun v w9 => mX (d + 1) 166 287 [mJ, .int x1, .ref a2, .ref a3] (v.toList ++ []) w9) := by
  refine Eq.trans (X_st f_166_283 rfl rfl) ?_
  refine Eq.trans (X_call f_166_284 (by decide) rfl rfl rfl rfl rfl rfl (Nat.le_of_ble_eq_true rfl) (Nat.le_of_ble_eq_true rfl) (decide_eq_true h0) (Nat.le_of_ble_eq_true rfl)) ?_
  exact mThen_eq fun v w9 => mX_mask rfl
theorem b_166_287 {d : Nat} {x1 : Int32} {a2 : Nat} {a3 : Nat} {b0 : Nat} {w : MW} (h0 : mTg w b0 = 12) : mX (d + 1) 166 287 [mJ, .int x1, .ref a2, .ref a3] [.ref b0] w = mThen (mK d 159 [.ref b0, .ref 100] w) (fun v w9 => mX (d + 1) 166 292 [mJ, .int x1, .ref a2, .ref a3] (v.toList ++ []) w9) := by
  refine Eq.trans (X_st f_166_287 rfl rfl) ?_
  refine Eq.trans (X_call f_166_289 (by decide) rfl rfl rfl rfl rfl rfl (Nat.le_of_ble_eq_true rfl) (Nat.le_of_ble_eq_true rfl) (decide_eq_true h0) (Nat.le_of_ble_eq_true rfl)) ?_
  exact mThen_eq fun v w9 => mX_mask rfl
theorem b_166_292 {d : Nat} {x1 : Int32} {a2 : Nat} {a3 : Nat} {b0 : Nat} {w : MW} (h0 : mTg w b0 = 12) : mX (d + 1) 166 292 [mJ, .int x1, .ref a2, .ref a3] [.ref b0] w = mThen (mK d 159 [.ref b0, .ref a2] w) (fun v w9 => mX (d + 1) 166 296 [mJ, .int x1, mJ, .ref a3] (v.toList ++ []) w9) := by
  refine Eq.trans (X_st f_166_292 rfl rfl) ?_
  refine Eq.trans (X_call f_166_293 (by decide) rfl rfl rfl rfl rfl rfl (Nat.le_of_ble_eq_true rfl) (Nat.le_of_ble_eq_true rfl) (decide_eq_true h0) (Nat.le_of_ble_eq_true rfl)) ?_
  exact mThen_eq fun v w9 => mX_mask rfl
theorem b_166_296 {d : Nat} {x1 : Int32} {a3 : Nat} {b0 : Nat} {w : MW} (h0 : mTg w b0 = 12) : mX (d + 1) 166 296 [mJ, .int x1, mJ, .ref a3] [.ref b0] w = mThen (mK d 159 [.ref b0, .ref 102] w) (fun v w9 => mX (d + 1) 166 301 [mJ, .int x1, mJ, .ref a3] (v.toList ++ []) w9) := by
  refine Eq.trans (X_st f_166_296 rfl rfl) ?_
  refine Eq.trans (X_call f_166_298 (by decide) rfl rfl rfl rfl rfl rfl (Nat.le_of_ble_eq_true rfl) (Nat.le_of_ble_eq_true rfl) (decide_eq_true h0) (Nat.le_of_ble_eq_true rfl)) ?_
  exact mThen_eq fun v w9 => mX_mask rfl
theorem b_166_301 {d : Nat} {x1 : Int32} {a3 : Nat} {b0 : Nat} {w : MW} (h0 : mTg w b0 = 12) : mX (d + 1) 166 301 [mJ, .int x1, mJ, .ref a3] [.ref b0] w = mThen (mK d 159 [.ref b0, .ref a3] w) (fun v w9 => mX (d + 1) 166 305 [mJ, .int x1, mJ, mJ] (v.toList ++ []) w9) := by
  refine Eq.trans (X_st f_166_301 rfl rfl) ?_
  refine Eq.trans (X_call f_166_302 (by decide) rfl rfl rfl rfl rfl rfl (Nat.le_of_ble_eq_true rfl) (Nat.le_of_ble_eq_true rfl) (decide_eq_true h0) (Nat.le_of_ble_eq_true rfl)) ?_
  exact mThen_eq fun v w9 => mX_mask rfl
theorem b_166_305 {d : Nat} {x1 : Int32} {b0 : Nat} {w : MW} (h0 : mTg w b0 = 12) : mX (d + 1) 166 305 [mJ, .int x1, mJ, mJ] [.ref b0] w = mThen (mK d 159 [.ref b0, .ref 104] w) (fun v w9 => mX (d + 1) 166 310 [mJ, .int x1, mJ, mJ] (v.toList ++ []) w9) := by
  refine Eq.trans (X_st f_166_305 rfl rfl) ?_
  refine Eq.trans (X_call f_166_307 (by decide) rfl rfl rfl rfl rfl rfl (Nat.le_of_ble_eq_true rfl) (Nat.le_of_ble_eq_true rfl) (decide_eq_true h0) (Nat.le_of_ble_eq_true rfl)) ?_
  exact mThen_eq fun v w9 => mX_mask rfl
theorem b_166_310 {d : Nat} {x1 : Int32} {b0 : Nat} {w : MW} (h0 : mTg w b0 = 12) : mX (d + 1) 166 310 [mJ, .int x1, mJ, mJ] [.ref b0] w = mThen (mK d 160 [.ref b0, .int x1] w) (fun v w9 => mX (d + 1) 166 314 [mJ, mJ, mJ, mJ] (v.toList ++ []) w9) := by
  refine Eq.trans (X_st f_166_310 rfl rfl) ?_
  refine Eq.trans (X_call f_166_311 (by decide) rfl rfl rfl rfl rfl rfl (Nat.le_of_ble_eq_true rfl) (Nat.le_of_ble_eq_true rfl) (decide_eq_true h0) (Nat.le_of_ble_eq_true rfl)) ?_
  exact mThen_eq fun v w9 => mX_mask rfl
theorem b_166_314 {d : Nat} {b0 : Nat} {w : MW} (h0 : mTg w b0 = 12) : mX (d + 1) 166 314 [mJ, mJ, mJ, mJ] [.ref b0] w = mThen (mK d 161 [.ref b0] w) (fun v w9 => mX (d + 1) 166 317 [mJ, mJ, mJ, mJ] (v.toList ++ []) w9) := by
  refine Eq.trans (X_call f_166_314 (by decide) rfl rfl rfl rfl rfl rfl (Nat.le_of_ble_eq_true rfl) (Nat.le_of_ble_eq_true rfl) (decide_eq_true h0) (Nat.le_of_ble_eq_true rfl)) ?_
  exact mThen_eq fun v w9 => mX_mask rfl
theorem b_166_317 {d : Nat} {b0 : Nat} {w : MW} : mX d 166 317 [mJ, mJ, mJ, mJ] [.ref b0] w = some (.inl (some (.ref b0)), w) := by
  exact X_ret f_166_317 rfl rfl
theorem b_166_318 {d : Nat} {w : MW} : mX d 166 318 [mJ, mJ, mJ, mJ] [] w = some (.inl (some (.ref 106)), w) := by
  refine Eq.trans (X_st f_166_318 rfl rfl) ?_
  exact X_ret f_166_320 rfl rfl
theorem b_166_321 {d : Nat} {x1 : Int32} {a2 : Nat} {w : MW} : mX d 166 321 [mJ, .int x1, .ref a2, mJ] [] w = mX d 166 324 [mJ, .int x1, .ref a2, mJ] [.ref (mSz w)] (wN w 12 0 (mNf 12)) := by
  refine Eq.trans (X_new f_166_321 (Nat.le_of_ble_eq_true rfl)) ?_
  exact mX_mask rfl
theorem b_166_324 {d : Nat} {x1 : Int32} {a2 : Nat} {b0 : Nat} {w : MW} (h0 : mE ≤ b0) : mX (d + 1) 166 324 [mJ, .int x1, .ref a2, mJ] [.ref b0] w = mThen (mK d 158 [.ref b0] w) (fun v w9 => mX (d + 1) 166 328 [mJ, .int x1, .ref a2, mJ] (v.toList ++ [.ref b0]) w9) := by
  refine Eq.trans (X_dup f_166_324 rfl) ?_
  refine Eq.trans (X_call f_166_325 (by decide) rfl rfl rfl rfl rfl rfl (Nat.le_of_ble_eq_true rfl) (Nat.le_of_ble_eq_true rfl) (decide_eq_true h0) (Nat.le_of_ble_eq_true rfl)) ?_
  exact mThen_eq fun v w9 => mX_mask rfl
theorem b_166_328 {d : Nat} {x1 : Int32} {a2 : Nat} {b0 : Nat} {w : MW} (h0 : mTg w b0 = 12) : mX (d + 1) 166 328 [mJ, .int x1, .ref a2, mJ] [.ref b0] w = mThen (mK d 159 [.ref b0, .ref 108] w) (fun v w9 => mX (d + 1) 166 333 [mJ, .int x1, .ref a2, mJ] (v.toList ++ []) w9) := by
  refine Eq.trans (X_st f_166_328 rfl rfl) ?_
  refine Eq.trans (X_call f_166_330 (by decide) rfl rfl rfl rfl rfl rfl (Nat.le_of_ble_eq_true rfl) (Nat.le_of_ble_eq_true rfl) (decide_eq_true h0) (Nat.le_of_ble_eq_true rfl)) ?_
  exact mThen_eq fun v w9 => mX_mask rfl
theorem b_166_333 {d : Nat} {x1 : Int32} {a2 : Nat} {b0 : Nat} {w : MW} (h0 : mTg w b0 = 12) : mX (d + 1) 166 333 [mJ, .int x1, .ref a2, mJ] [.ref b0] w = mThen (mK d 159 [.ref b0, .ref a2] w) (fun v w9 => mX (d + 1) 166 337 [mJ, .int x1, mJ, mJ] (v.toList ++ []) w9) := by
  refine Eq.trans (X_st f_166_333 rfl rfl) ?_
  refine Eq.trans (X_call f_166_334 (by decide) rfl rfl rfl rfl rfl rfl (Nat.le_of_ble_eq_true rfl) (Nat.le_of_ble_eq_true rfl) (decide_eq_true h0) (Nat.le_of_ble_eq_true rfl)) ?_
  exact mThen_eq fun v w9 => mX_mask rfl
theorem b_166_337 {d : Nat} {x1 : Int32} {b0 : Nat} {w : MW} (h0 : mTg w b0 = 12) : mX (d + 1) 166 337 [mJ, .int x1, mJ, mJ] [.ref b0] w = mThen (mK d 159 [.ref b0, .ref 110] w) (fun v w9 => mX (d + 1) 166 342 [mJ, .int x1, mJ, mJ] (v.toList ++ []) w9) := by
  refine Eq.trans (X_st f_166_337 rfl rfl) ?_
  refine Eq.trans (X_call f_166_339 (by decide) rfl rfl rfl rfl rfl rfl (Nat.le_of_ble_eq_true rfl) (Nat.le_of_ble_eq_true rfl) (decide_eq_true h0) (Nat.le_of_ble_eq_true rfl)) ?_
  exact mThen_eq fun v w9 => mX_mask rfl
theorem b_166_342 {d : Nat} {x1 : Int32} {b0 : Nat} {w : MW} (h0 : mTg w b0 = 12) : mX (d + 1) 166 342 [mJ, .int x1, mJ, mJ] [.ref b0] w = mThen (mK d 160 [.ref b0, .int x1] w) (fun v w9 => mX (d + 1) 166 346 [mJ, mJ, mJ, mJ] (v.toList ++ []) w9) := by
  refine Eq.trans (X_st f_166_342 rfl rfl) ?_
  refine Eq.trans (X_call f_166_343 (by decide) rfl rfl rfl rfl rfl rfl (Nat.le_of_ble_eq_true rfl) (Nat.le_of_ble_eq_true rfl) (decide_eq_true h0) (Nat.le_of_ble_eq_true rfl)) ?_
  exact mThen_eq fun v w9 => mX_mask rfl
theorem b_166_346 {d : Nat} {b0 : Nat} {w : MW} (h0 : mTg w b0 = 12) : mX (d + 1) 166 346 [mJ, mJ, mJ, mJ] [.ref b0] w = mThen (mK d 159 [.ref b0, .ref 112] w) (fun v w9 => mX (d + 1) 166 351 [mJ, mJ, mJ, mJ] (v.toList ++ []) w9) := by
  refine Eq.trans (X_st f_166_346 rfl rfl) ?_
  refine Eq.trans (X_call f_166_348 (by decide) rfl rfl rfl rfl rfl rfl (Nat.le_of_ble_eq_true rfl) (Nat.le_of_ble_eq_true rfl) (decide_eq_true h0) (Nat.le_of_ble_eq_true rfl)) ?_
  exact mThen_eq fun v w9 => mX_mask rfl
theorem b_166_351 {d : Nat} {b0 : Nat} {w : MW} (h0 : mTg w b0 = 12) : mX (d + 1) 166 351 [mJ, mJ, mJ, mJ] [.ref b0] w = mThen (mK d 161 [.ref b0] w) (fun v w9 => mX (d + 1) 166 354 [mJ, mJ, mJ, mJ] (v.toList ++ []) w9) := by
  refine Eq.trans (X_call f_166_351 (by decide) rfl rfl rfl rfl rfl rfl (Nat.le_of_ble_eq_true rfl) (Nat.le_of_ble_eq_true rfl) (decide_eq_true h0) (Nat.le_of_ble_eq_true rfl)) ?_
  exact mThen_eq fun v w9 => mX_mask rfl
theorem b_166_354 {d : Nat} {b0 : Nat} {w : MW} : mX d 166 354 [mJ, mJ, mJ, mJ] [.ref b0] w = some (.inl (some (.ref b0)), w) := by
  exact X_ret f_166_354 rfl rfl
/-! java/lang/AbstractStringBuilder <init> (I)V -/
theorem f_170_0 : mFetch 170 0 = some (.aload_n 0, 1, []) := by decide +kernel
theorem f_170_1 : mFetch 170 1 = some (.invokespecial 3, 3, [1002, 1560]) := by decide +kernel
theorem f_170_4 : mFetch 170 4 = some (.getstatic 18, 3, [0, 1446]) := by decide +kernel
theorem f_170_7 : mFetch 170 7 = some (.ifCond .eq 18, 3, [25]) := by decide +kernel
theorem f_170_10 : mFetch 170 10 = some (.aload_n 0, 1, []) := by decide +kernel
theorem f_170_11 : mFetch 170 11 = some (.iload_n 1, 1, []) := by decide +kernel
theorem f_170_12 : mFetch 170 12 = some (.newarray .byte, 2, [51]) := by decide +kernel
theorem f_170_14 : mFetch 170 14 = some (.putfield 15, 3, [12, 0, 0, 1561]) := by decide +kernel
theorem f_170_17 : mFetch 170 17 = some (.aload_n 0, 1, []) := by decide +kernel
theorem f_170_18 : mFetch 170 18 = some (.iconst 0, 1, []) := by decide +kernel
theorem f_170_19 : mFetch 170 19 = some (.putfield 22, 3, [12, 1, 0, 1562]) := by decide +kernel
theorem f_170_22 : mFetch 170 22 = some (.goto 16, 3, [38]) := by decide +kernel
theorem f_170_25 : mFetch 170 25 = some (.aload_n 0, 1, []) := by decide +kernel
theorem f_170_26 : mFetch 170 26 = some (.iload_n 1, 1, []) := by decide +kernel
theorem f_170_38 : mFetch 170 38 = some (.return_, 1, []) := by decide +kernel
theorem b_170_0 {d : Nat} {a0 : Nat} {x1 : Int32} {w : MW} (h0 : mE ≤ a0) : mX d 170 0 [.ref a0, .int x1] [] w = mX d 170 10 [.ref a0, .int x1] [] w := by
  refine Eq.trans (X_st f_170_0 rfl rfl) ?_
  refine Eq.trans (X_st f_170_1 rfl (if_pos ⟨h0, Nat.le_of_ble_eq_true rfl⟩)) ?_
  refine Eq.trans (X_st f_170_4 rfl rfl) ?_
  refine Eq.trans (X_st f_170_7 rfl rfl) ?_
  exact mX_mask rfl
theorem e_170 {d : Nat} {a0 : Nat} {x1 : Int32} {w : MW} : mK d 170 [.ref a0, .int x1] w = mX d 170 0 [.ref a0, .int x1] [] w := rfl
theorem b_170_10 {d : Nat} {a0 : Nat} {x1 : Nat} {w : MW} (h0 : x1 < 2147483648) (h1 : x1 ≤ 134217728) : mX d 170 10 [.ref a0, .int (nI x1)] [] w = mX d 170 14 [.ref a0, mJ] [.ref (mSz w), .ref a0] (wN w 51 x1 x1) := by
  refine Eq.trans (X_st f_170_10 rfl rfl) ?_
  refine Eq.trans (X_st f_170_11 rfl rfl) ?_
  refine Eq.trans (X_newa f_170_12 (jnn h0) (jcl h0) h1) ?_
  exact mX_mask rfl
theorem b_170_14 {d : Nat} {a0 : Nat} {b0 : Nat} {b1 : Nat} {w : MW} (h0 : mTg w b1 = 12) (h1 : mE ≤ b1) : mX d 170 14 [.ref a0, mJ] [.ref b0, .ref b1] w = mX d 170 17 [.ref a0, mJ] [] (wR w b1 0 (some b0)) := by
  refine Eq.trans (X_putR f_170_14 h0 h1 rfl) ?_
  exact mX_mask rfl
theorem b_170_17 {d : Nat} {a0 : Nat} {w : MW} (h0 : mTg w a0 = 12) (h1 : mE ≤ a0) : mX d 170 17 [.ref a0, mJ] [] w = mX d 170 22 [mJ, mJ] [] (wI w a0 1 (nI 0)) := by
  refine Eq.trans (X_st f_170_17 rfl rfl) ?_
  refine Eq.trans (X_iconst f_170_18 kc_i_0) ?_
  refine Eq.trans (X_putI f_170_19 h0 h1 rfl rfl) ?_
  exact mX_mask rfl
theorem b_170_22 {d : Nat} {w : MW} : mX d 170 22 [mJ, mJ] [] w = some (.inl none, w) := by
  refine Eq.trans (X_st f_170_22 rfl rfl) ?_
  exact X_ret f_170_38 rfl rfl
theorem b_170_25 {d : Nat} {a0 : Nat} {x1 : Int32} {w : MW} : mX d 170 25 [.ref a0, .int x1] [] w = mX d 170 27 [mJ, mJ] [.int x1, .ref a0] w := by
  refine Eq.trans (X_st f_170_25 rfl rfl) ?_
  refine Eq.trans (X_st f_170_26 rfl rfl) ?_
  exact mX_mask rfl
/-! java/lang/AbstractStringBuilder length ()I -/
theorem f_171_0 : mFetch 171 0 = some (.aload_n 0, 1, []) := by decide +kernel
theorem f_171_1 : mFetch 171 1 = some (.getfield 79, 3, [12, 3, 0, 1564]) := by decide +kernel
theorem f_171_4 : mFetch 171 4 = some (.ireturn, 1, [0]) := by decide +kernel
theorem b_171_0 {d : Nat} {a0 : Nat} {w : MW} (h0 : mTg w a0 = 12) : mX d 171 0 [.ref a0] [] w = some (.inl (some (.int (mI w a0 3))), w) := by
  refine Eq.trans (X_st f_171_0 rfl rfl) ?_
  refine Eq.trans (X_getI f_171_1 h0 rfl) ?_
  exact X_ireturn f_171_4 rfl
theorem e_171 {d : Nat} {a0 : Nat} {w : MW} : mK d 171 [.ref a0] w = mX d 171 0 [.ref a0] [] w := rfl
/-! java/lang/AbstractStringBuilder ensureCapacityInternal (I)V -/
theorem f_172_0 : mFetch 172 0 = some (.aload_n 0, 1, []) := by decide +kernel
theorem f_172_1 : mFetch 172 1 = some (.getfield 15, 3, [12, 0, 0, 1561]) := by decide +kernel
theorem f_172_4 : mFetch 172 4 = some (.arraylength, 1, []) := by decide +kernel
theorem f_172_5 : mFetch 172 5 = some (.aload_n 0, 1, []) := by decide +kernel
theorem f_172_6 : mFetch 172 6 = some (.getfield 22, 3, [12, 1, 0, 1562]) := by decide +kernel
theorem f_172_9 : mFetch 172 9 = some (.ishr, 1, []) := by decide +kernel
theorem f_172_10 : mFetch 172 10 = some (.istore_n 2, 1, []) := by decide +kernel
theorem f_172_11 : mFetch 172 11 = some (.iload_n 1, 1, []) := by decide +kernel
theorem f_172_12 : mFetch 172 12 = some (.iload_n 2, 1, []) := by decide +kernel
theorem f_172_13 : mFetch 172 13 = some (.isub, 1, []) := by decide +kernel
theorem f_172_14 : mFetch 172 14 = some (.ifCond .le 24, 3, [38]) := by decide +kernel
theorem f_172_17 : mFetch 172 17 = some (.aload_n 0, 1, []) := by decide +kernel
theorem f_172_18 : mFetch 172 18 = some (.aload_n 0, 1, []) := by decide +kernel
theorem f_172_19 : mFetch 172 19 = some (.getfield 15, 3, [12, 0, 0, 1561]) := by decide +kernel
theorem f_172_22 : mFetch 172 22 = some (.aload_n 0, 1, []) := by decide +kernel
theorem f_172_23 : mFetch 172 23 = some (.iload_n 1, 1, []) := by decide +kernel
theorem f_172_24 : mFetch 172 24 = some (.invokevirtual 104, 3, [173, 2, 4, 12, 1416, 1418, 1, 1687, 0, 0]) := by decide +kernel
theorem f_172_27 : mFetch 172 27 = some (.aload_n 0, 1, []) := by decide +kernel
theorem f_172_28 : mFetch 172 28 = some (.getfield 22, 3, [12, 1, 0, 1562]) := by decide +kernel
theorem f_172_31 : mFetch 172 31 = some (.ishl, 1, []) := by decide +kernel
theorem f_172_32 : mFetch 172 32 = some (.invokestatic 108, 3, [189, 2, 0, 0, 1429, 1430]) := by decide +kernel
theorem f_172_35 : mFetch 172 35 = some (.putfield 15, 3, [12, 0, 0, 1561]) := by decide +kernel
theorem f_172_38 : mFetch 172 38 = some (.return_, 1, []) := by decide +kernel
theorem b_172_0 {d : Nat} {a0 : Nat} {x1 : Int32} {w : MW} (h0 : mTg w a0 = 12) (h1 : mR w a0 0 = some (gR w a0 0)) (h2 : 50 ≤ mTg w (gR w a0 0) ∧ mTg w (gR w a0 0) < 55) : mX d 172 0 [.ref a0, .int x1, mJ] [] w = (if (x1 - ((nI (mLn w (gR w a0 0))) >>> ((mI w a0 1) &&& 31))) ≤ nI 0 then mX d 172 38 [mJ, mJ, mJ] [] w else mX d 172 17 [.ref a0, .int x1, mJ] [] w) := by
  refine Eq.trans (X_st f_172_0 rfl rfl) ?_
  refine Eq.trans (X_getR f_172_1 h0 rfl h1) ?_
  refine Eq.trans (X_st f_172_4 rfl (if_pos h2)) ?_
  refine Eq.trans (X_st f_172_5 rfl rfl) ?_
  refine Eq.trans (X_getI f_172_6 h0 rfl) ?_
  refine Eq.trans (X_st f_172_9 rfl rfl) ?_
  refine Eq.trans (X_istore_n (L' := [.ref a0, .int x1, .int ((nI (mLn w (gR w a0 0))) >>> ((mI w a0 1) &&& 31))]) f_172_10 (Nat.le_of_ble_eq_true rfl) rfl) ?_
  refine Eq.trans (X_st f_172_11 rfl rfl) ?_
  refine Eq.trans (X_st f_172_12 rfl rfl) ?_
  refine Eq.trans (X_st f_172_13 rfl rfl) ?_
  refine Eq.trans (X_br f_172_14 rfl rfl) ?_
  exact mIte_eq (mX_mask rfl) (mX_mask rfl)
theorem e_172 {d : Nat} {a0 : Nat} {x1 : Int32} {w : MW} : mK d 172 [.ref a0, .int x1] w = mX d 172 0 [.ref a0, .int x1, mJ] [] w := rfl
theorem b_172_17 {d : Nat} {a0 : Nat} {x1 : Int32} {w : MW} (h0 : mTg w a0 = 12) (h1 : mR w a0 0 = some (gR w a0 0)) : mX (d + 1) 172 17 [.ref a0, .int x1, mJ] [] w = mThen (mK d 173 [.ref a0, .int x1] w) (fun v w9 => mX (d + 1) 172 27 [.ref a0, mJ, mJ] (v.toList ++ [.ref (gR w a0 0), .ref a0]) w9) := by
  refine Eq.trans (X_st f_172_17 rfl rfl) ?_
  refine Eq.trans (X_st f_172_18 rfl rfl) ?_
  refine Eq.trans (X_getR f_172_19 h0 rfl h1) ?_
  refine Eq.trans (X_st f_172_22 rfl rfl) ?_
  refine Eq.trans (X_st f_172_23 rfl rfl) ?_
  refine Eq.trans (X_call f_172_24 (by decide) rfl rfl rfl rfl rfl rfl (Nat.le_of_ble_eq_true rfl) (Nat.le_of_ble_eq_true rfl) (decide_eq_true h0) (Nat.le_of_ble_eq_true rfl)) ?_
  exact mThen_eq fun v w9 => mX_mask rfl
theorem b_172_27 {d : Nat} {a0 : Nat} {y0 : Int32} {b1 : Nat} {b2 : Nat} {w : MW} (h0 : mTg w a0 = 12) : mX (d + 1) 172 27 [.ref a0, mJ, mJ] [.int y0, .ref b1, .ref b2] w = mThen (mK d 189 [.ref b1, .int (y0 <<< ((mI w a0 1) &&& 31))] w) (fun v w9 => mX (d + 1) 172 35 [mJ, mJ, mJ] (v.toList ++ [.ref b2]) w9) := by
  refine Eq.trans (X_st f_172_27 rfl rfl) ?_
  refine Eq.trans (X_getI f_172_28 h0 rfl) ?_
  refine Eq.trans (X_st f_172_31 rfl rfl) ?_
  refine Eq.trans (X_call f_172_32 (by decide) rfl rfl rfl rfl rfl rfl (Nat.le_of_ble_eq_true rfl) (Nat.le_of_ble_eq_true rfl) rfl (Nat.le_of_ble_eq_true rfl)) ?_
  exact mThen_eq fun v w9 => mX_mask rfl
theorem b_172_35 {d : Nat} {b0 : Nat} {b1 : Nat} {w : MW} (h0 : mTg w b1 = 12) (h1 : mE ≤ b1) : mX d 172 35 [mJ, mJ, mJ] [.ref b0, .ref b1] w = mX d 172 38 [mJ, mJ, mJ] [] (wR w b1 0 (some b0)) := by
  refine Eq.trans (X_putR f_172_35 h0 h1 rfl) ?_
  exact mX_mask rfl
theorem b_172_38 {d : Nat} {w : MW} : mX d 172 38 [mJ, mJ, mJ] [] w = some (.inl none, w) := by
  exact X_ret f_172_38 rfl rfl
/-! java/lang/AbstractStringBuilder newCapacity (I)I -/
theorem f_173_0 : mFetch 173 0 = some (.aload_n 0, 1, []) := by decide +kernel
theorem f_173_1 : mFetch 173 1 = some (.getfield 15, 3, [12, 0, 0, 1561]) := by decide +kernel
theorem f_173_4 : mFetch 173 4 = some (.arraylength, 1, []) := by decide +kernel
theorem f_173_5 : mFetch 173 5 = some (.istore_n 2, 1, []) := by decide +kernel
theorem f_173_6 : mFetch 173 6 = some (.iload_n 1, 1, []) := by decide +kernel
theorem f_173_7 : mFetch 173 7 = some (.aload_n 0, 1, []) := by decide +kernel
theorem f_173_8 : mFetch 173 8 = some (.getfield 22, 3, [12, 1, 0, 1562]) := by decide +kernel
theorem f_173_11 : mFetch 173 11 = some (.ishl, 1, []) := by decide +kernel
theorem f_173_12 : mFetch 173 12 = some (.istore_n 3, 1, []) := by decide +kernel
theorem f_173_13 : mFetch 173 13 = some (.iload_n 3, 1, []) := by decide +kernel
theorem f_173_14 : mFetch 173 14 = some (.iload_n 2, 1, []) := by decide +kernel
theorem f_173_15 : mFetch 173 15 = some (.isub, 1, []) := by decide +kernel
theorem f_173_16 : mFetch 173 16 = some (.istore 4, 2, []) := by decide +kernel
theorem f_173_18 : mFetch 173 18 = some (.iload_n 2, 1, []) := by decide +kernel
theorem f_173_19 : mFetch 173 19 = some (.iload 4, 2, []) := by decide +kernel
theorem f_173_21 : mFetch 173 21 = some (.iload_n 2, 1, []) := by decide +kernel
theorem f_173_22 : mFetch 173 22 = some (.iconst 2, 1, []) := by decide +kernel
theorem f_173_23 : mFetch 173 23 = some (.aload_n 0, 1, []) := by decide +kernel
theorem f_173_24 : mFetch 173 24 = some (.getfield 22, 3, [12, 1, 0, 1562]) := by decide +kernel
theorem f_173_27 : mFetch 173 27 = some (.ishl, 1, []) := by decide +kernel
theorem f_173_28 : mFetch 173 28 = some (.iadd, 1, []) := by decide +kernel
theorem f_173_29 : mFetch 173 29 = some (.invokestatic 114, 3, [193, 3, 0, 0, 1420, 1421]) := by decide +kernel
theorem f_173_32 : mFetch 173 32 = some (.istore 5, 2, []) := by decide +kernel
theorem f_173_34 : mFetch 173 34 = some (.iload 5, 2, []) := by decide +kernel
theorem f_173_36 : mFetch 173 36 = some (.ldc 39, 2, [0, 2147483647, 1428]) := by decide +kernel
theorem f_173_38 : mFetch 173 38 = some (.if_icmp .ne 13, 3, [51]) := by decide +kernel
theorem f_173_51 : mFetch 173 51 = some (.iload 5, 2, []) := by decide +kernel
theorem f_173_53 : mFetch 173 53 = some (.aload_n 0, 1, []) := by decide +kernel
theorem f_173_54 : mFetch 173 54 = some (.getfield 22, 3, [12, 1, 0, 1562]) := by decide +kernel
theorem f_173_57 : mFetch 173 57 = some (.ishr, 1, []) := by decide +kernel
theorem f_173_58 : mFetch 173 58 = some (.ireturn, 1, [0]) := by decide +kernel
theorem b_173_0 {d : Nat} {a0 : Nat} {x1 : Int32} {w : MW} (h0 : mTg w a0 = 12) (h1 : mR w a0 0 = some (gR w a0 0)) (h2 : 50 ≤ mTg w (gR w a0 0) ∧ mTg w (gR w a0 0) < 55) : mX (d + 1) 173 0 [.ref a0, .int x1, mJ, mJ, mJ, mJ] [] w = mThen (mK d 193 [.int (nI (mLn w (gR w a0 0))), .int ((x1 <<< ((mI w a0 1) &&& 31)) - (nI (mLn w (gR w a0 0)))), .int ((nI (mLn w (gR w a0 0))) + ((nI 2) <<< ((mI w a0 1) &&& 31)))] w) (fun v w9 => mX (d + 1) 173 32 [.ref a0, mJ, mJ, mJ, mJ, mJ] (v.toList ++ []) w9) := by
  refine Eq.trans (X_st f_173_0 rfl rfl) ?_
  refine Eq.trans (X_getR f_173_1 h0 rfl h1) ?_
  refine Eq.trans (X_st f_173_4 rfl (if_pos h2)) ?_
  refine Eq.trans (X_istore_n (L' := [.ref a0, .int x1, .int (nI (mLn w (gR w a0 0))), mJ, mJ, mJ]) f_173_5 (Nat.le_of_ble_eq_true rfl) rfl) ?_
  refine Eq.trans (X_st f_173_6 rfl rfl) ?_
  refine Eq.trans (X_st f_173_7 rfl rfl) ?_
  refine Eq.trans (X_getI f_173_8 h0 rfl) ?_
  refine Eq.trans (X_st f_173_11 rfl rfl) ?_
  refine Eq.trans (X_istore_n (L' := [.ref a0, .int x1, .int (nI (mLn w (gR w a0 0))), .int (x1 <<< ((mI w a0 1) &&& 31)), mJ, mJ]) f_173_12 (Nat.le_of_ble_eq_true rfl) rfl) ?_
  refine Eq.trans (X_st f_173_13 rfl rfl) ?_
  refine Eq.trans (X_st f_173_14 rfl rfl) ?_
  refine Eq.trans (X_st f_173_15 rfl rfl) ?_
  refine Eq.trans (X_istore (L' := [.ref a0, .int x1, .int (nI (mLn w (gR w a0 0))), .int (x1 <<< ((mI w a0 1) &&& 31)), .int ((x1 <<< ((mI w a0 1) &&& 31)) - (nI (mLn w (gR w a0 0)))), mJ]) f_173_16 (Nat.le_of_ble_eq_true rfl) rfl) ?_
  refine Eq.trans (X_st f_173_18 rfl rfl) ?_
  refine Eq.trans (X_st f_173_19 rfl rfl) ?_
  refine Eq.trans (X_st f_173_21 rfl rfl) ?_
  refine Eq.trans (X_iconst f_173_22 kc_i_2) ?_
  refine Eq.trans (X_st f_173_23 rfl rfl) ?_
  refine Eq.trans (X_getI f_173_24 h0 rfl) ?_
  refine Eq.trans (X_st f_173_27 rfl rfl) ?_
  refine Eq.trans (X_st f_173_28 rfl rfl) ?_
  refine Eq.trans (X_call f_173_29 (by decide) rfl rfl rfl rfl rfl rfl (Nat.le_of_ble_eq_true rfl) (Nat.le_of_ble_eq_true rfl) rfl (Nat.le_of_ble_eq_true rfl)) ?_
  exact mThen_eq fun v w9 => mX_mask rfl
theorem e_173 {d : Nat} {a0 : Nat} {x1 : Int32} {w : MW} : mK d 173 [.ref a0, .int x1] w = mX d 173 0 [.ref a0, .int x1, mJ, mJ, mJ, mJ] [] w := rfl
theorem b_173_32 {d : Nat} {a0 : Nat} {y0 : Int32} {w : MW} : mX d 173 32 [.ref a0, mJ, mJ, mJ, mJ, mJ] [.int y0] w = (if ¬ y0 = (nI 2147483647) then mX d 173 51 [.ref a0, mJ, mJ, mJ, mJ, .int y0] [] w else mX d 173 41 [mJ, mJ, mJ, mJ, mJ, mJ] [] w) := by
  refine Eq.trans (X_istore (L' := [.ref a0, mJ, mJ, mJ, mJ, .int y0]) f_173_32 (Nat.le_of_ble_eq_true rfl) rfl) ?_
  refine Eq.trans (X_st f_173_34 rfl rfl) ?_
  refine Eq.trans (X_st f_173_36 rfl rfl) ?_
  refine Eq.trans (X_br f_173_38 rfl rfl) ?_
  exact mIte_eq (mX_mask rfl) (mX_mask rfl)
theorem b_173_51 {d : Nat} {a0 : Nat} {x5 : Int32} {w : MW} (h0 : mTg w a0 = 12) : mX d 173 51 [.ref a0, mJ, mJ, mJ, mJ, .int x5] [] w = some (.inl (some (.int (x5 >>> ((mI w a0 1) &&& 31)))), w) := by
  refine Eq.trans (X_st f_173_51 rfl rfl) ?_
  refine Eq.trans (X_st f_173_53 rfl rfl) ?_
  refine Eq.trans (X_getI f_173_54 h0 rfl) ?_
  refine Eq.trans (X_st f_173_57 rfl rfl) ?_
  exact X_ireturn f_173_58 rfl
/-! java/lang/AbstractStringBuilder append (Ljava/lang/String;)Ljava/lang/AbstractStringBuilder; -/
theorem f_174_0 : mFetch 174 0 = some (.aload_n 1, 1, []) := by decide +kernel
theorem f_174_1 : mFetch 174 1 = some (.ifnonnull 8, 3, [9]) := by decide +kernel
theorem f_174_4 : mFetch 174 4 = some (.aload_n 0, 1, []) := by decide +kernel
theorem f_174_9 : mFetch 174 9 = some (.aload_n 1, 1, []) := by decide +kernel
theorem f_174_10 : mFetch 174 10 = some (.invokevirtual 32, 3, [149, 1, 2, 11, 1453, 942, 943]) := by decide +kernel
theorem f_174_13 : mFetch 174 13 = some (.istore_n 2, 1, []) := by decide +kernel
theorem f_174_14 : mFetch 174 14 = some (.aload_n 0, 1, []) := by decide +kernel
theorem f_174_15 : mFetch 174 15 = some (.aload_n 0, 1, []) := by decide +kernel
theorem f_174_16 : mFetch 174 16 = some (.getfield 79, 3, [12, 3, 0, 1564]) := by decide +kernel
theorem f_174_19 : mFetch 174 19 = some (.iload_n 2, 1, []) := by decide +kernel
theorem f_174_20 : mFetch 174 20 = some (.iadd, 1, []) := by decide +kernel
theorem f_174_21 : mFetch 174 21 = some (.invokevirtual 100, 3, [172, 2, 4, 12, 1412, 1414, 0, 1686, 0, 0]) := by decide +kernel
theorem f_174_24 : mFetch 174 24 = some (.aload_n 0, 1, []) := by decide +kernel
theorem f_174_25 : mFetch 174 25 = some (.aload_n 0, 1, []) := by decide +kernel
theorem f_174_26 : mFetch 174 26 = some (.getfield 79, 3, [12, 3, 0, 1564]) := by decide +kernel
theorem f_174_29 : mFetch 174 29 = some (.aload_n 1, 1, []) := by decide +kernel
theorem f_174_30 : mFetch 174 30 = some (.invokevirtual 208, 3, [179, 3, 4, 12, 1454, 1456, 2, 1688, 0, 0]) := by decide +kernel
theorem f_174_33 : mFetch 174 33 = some (.aload_n 0, 1, []) := by decide +kernel
theorem f_174_34 : mFetch 174 34 = some (.dup, 1, []) := by decide +kernel
theorem f_174_35 : mFetch 174 35 = some (.getfield 79, 3, [12, 3, 0, 1564]) := by decide +kernel
theorem f_174_38 : mFetch 174 38 = some (.iload_n 2, 1, []) := by decide +kernel
theorem f_174_39 : mFetch 174 39 = some (.iadd, 1, []) := by decide +kernel
theorem f_174_40 : mFetch 174 40 = some (.putfield 79, 3, [12, 3, 0, 1564]) := by decide +kernel
theorem f_174_43 : mFetch 174 43 = some (.aload_n 0, 1, []) := by decide +kernel
theorem f_174_44 : mFetch 174 44 = some (.areturn, 1, []) := by decide +kernel
theorem b_174_0 {d : Nat} {a0 : Nat} {a1 : Nat} {w : MW} (h0 : ¬ a1 = 0) : mX d 174 0 [.ref a0, .ref a1, mJ] [] w = mX d 174 9 [.ref a0, .ref a1, mJ] [] w := by
  refine Eq.trans (X_st f_174_0 rfl rfl) ?_
  refine Eq.trans (X_st f_174_1 rfl (if_neg h0)) ?_
  exact mX_mask rfl
theorem e_174 {d : Nat} {a0 : Nat} {a1 : Nat} {w : MW} : mK d 174 [.ref a0, .ref a1] w = mX d 174 0 [.ref a0, .ref a1, mJ] [] w := rfl
theorem b_174_4 {d : Nat} {a0 : Nat} {w : MW} : mX d 174 4 [.ref a0, mJ, mJ] [] w = mX d 174 5 [mJ, mJ, mJ] [.ref a0] w := by
  refine Eq.trans (X_st f_174_4 rfl rfl) ?_
  exact mX_mask rfl
theorem b_174_9 {d : Nat} {a0 : Nat} {a1 : Nat} {w : MW} (h0 : mTg w a1 = 11) : mX (d + 1) 174 9 [.ref a0, .ref a1, mJ] [] w = mThen (mK d 149 [.ref a1] w) (fun v w9 => mX (d + 1) 174 13 [.ref a0, .ref a1, mJ] (v.toList ++ []) w9) := by
  refine Eq.trans (X_st f_174_9 rfl rfl) ?_
  refine Eq.trans (X_call f_174_10 (by decide) rfl rfl rfl rfl rfl rfl (Nat.le_of_ble_eq_true rfl) (Nat.le_of_ble_eq_true rfl) (decide_eq_true h0) (Nat.le_of_ble_eq_true rfl)) ?_
  exact mThen_eq fun v w9 => mX_mask rfl
theorem b_174_13 {d : Nat} {a0 : Nat} {a1 : Nat} {y0 : Int32} {w : MW} (h0 : mTg w a0 = 12) : mX (d + 1) 174 13 [.ref a0, .ref a1, mJ] [.int y0] w = mThen (mK d 172 [.ref a0, .int ((mI w a0 3) + y0)] w) (fun v w9 => mX (d + 1) 174 24 [.ref a0, .ref a1, .int y0] (v.toList ++ []) w9) := by
  refine Eq.trans (X_istore_n (L' := [.ref a0, .ref a1, .int y0]) f_174_13 (Nat.le_of_ble_eq_true rfl) rfl) ?_
  refine Eq.trans (X_st f_174_14 rfl rfl) ?_
  refine Eq.trans (X_st f_174_15 rfl rfl) ?_
  refine Eq.trans (X_getI f_174_16 h0 rfl) ?_
  refine Eq.trans (X_st f_174_19 rfl rfl) ?_
  refine Eq.trans (X_st f_174_20 rfl rfl) ?_
  refine Eq.trans (X_call f_174_21 (by decide) rfl rfl rfl rfl rfl rfl (Nat.le_of_ble_eq_true rfl) (Nat.le_of_ble_eq_true rfl) (decide_eq_true h0) (Nat.le_of_ble_eq_true rfl)) ?_
  exact mThen_eq fun v w9 => mX_mask rfl
theorem b_174_24 {d : Nat} {a0 : Nat} {a1 : Nat} {x2 : Int32} {w : MW} (h0 : mTg w a0 = 12) : mX (d + 1) 174 24 [.ref a0, .ref a1, .int x2] [] w = mThen (mK d 179 [.ref a0, .int (mI w a0 3), .ref a1] w) (fun v w9 => mX (d + 1) 174 33 [.ref a0, mJ, .int x2] (v.toList ++ []) w9) := by
  refine Eq.trans (X_st f_174_24 rfl rfl) ?_
  refine Eq.trans (X_st f_174_25 rfl rfl) ?_
  refine Eq.trans (X_getI f_174_26 h0 rfl) ?_
  refine Eq.trans (X_st f_174_29 rfl rfl) ?_
  refine Eq.trans (X_call f_174_30 (by decide) rfl rfl rfl rfl rfl rfl (Nat.le_of_ble_eq_true rfl) (Nat.le_of_ble_eq_true rfl) (decide_eq_true h0) (Nat.le_of_ble_eq_true rfl)) ?_
  exact mThen_eq fun v w9 => mX_mask rfl
theorem b_174_33 {d : Nat} {a0 : Nat} {x2 : Int32} {w : MW} (h0 : mTg w a0 = 12) (h1 : mE ≤ a0) : mX d 174 33 [.ref a0, mJ, .int x2] [] w = mX d 174 43 [.ref a0, mJ, mJ] [] (wI w a0 3 ((mI w a0 3) + x2)) := by
  refine Eq.trans (X_st f_174_33 rfl rfl) ?_
  refine Eq.trans (X_dup f_174_34 rfl) ?_
  refine Eq.trans (X_getI f_174_35 h0 rfl) ?_
  refine Eq.trans (X_st f_174_38 rfl rfl) ?_
  refine Eq.trans (X_st f_174_39 rfl rfl) ?_
  refine Eq.trans (X_putI f_174_40 h0 h1 rfl rfl) ?_
  exact mX_mask rfl
theorem b_174_43 {d : Nat} {a0 : Nat} {w : MW} : mX d 174 43 [.ref a0, mJ, mJ] [] w = some (.inl (some (.ref a0)), w) := by
  refine Eq.trans (X_st f_174_43 rfl rfl) ?_
  exact X_ret f_174_44 rfl rfl
/-! java/lang/AbstractStringBuilder append (I)Ljava/lang/AbstractStringBuilder; -/
theorem f_175_0 : mFetch 175 0 = some (.aload_n 0, 1, []) := by decide +kernel
theorem f_175_1 : mFetch 175 1 = some (.getfield 79, 3, [12, 3, 0, 1564]) := by decide +kernel
theorem f_175_4 : mFetch 175 4 = some (.istore_n 2, 1, []) := by decide +kernel
theorem f_175_5 : mFetch 175 5 = some (.iload_n 2, 1, []) := by decide +kernel
theorem f_175_6 : mFetch 175 6 = some (.iload_n 1, 1, []) := by decide +kernel
theorem f_175_7 : mFetch 175 7 = some (.invokestatic 245, 3, [181, 1, 0, 0, 1502, 1503]) := by decide +kernel
theorem f_175_10 : mFetch 175 10 = some (.iadd, 1, []) := by decide +kernel
theorem f_175_11 : mFetch 175 11 = some (.istore_n 3, 1, []) := by decide +kernel
theorem f_175_12 : mFetch 175 12 = some (.aload_n 0, 1, []) := by decide +kernel
theorem f_175_13 : mFetch 175 13 = some (.iload_n 3, 1, []) := by decide +kernel
theorem f_175_14 : mFetch 175 14 = some (.invokevirtual 100, 3, [172, 2, 4, 12, 1412, 1414, 0, 1686, 0, 0]) := by decide +kernel
theorem f_175_17 : mFetch 175 17 = some (.aload_n 0, 1, []) := by decide +kernel
theorem f_175_18 : mFetch 175 18 = some (.invokevirtual 83, 3, [177, 1, 4, 12, 1441, 1442, 1444, 1443, 0, 0]) := by decide +kernel
theorem f_175_21 : mFetch 175 21 = some (.ifCond .eq 16, 3, [37]) := by decide +kernel
theorem f_175_24 : mFetch 175 24 = some (.iload_n 1, 1, []) := by decide +kernel
theorem f_175_25 : mFetch 175 25 = some (.iload_n 3, 1, []) := by decide +kernel
theorem f_175_26 : mFetch 175 26 = some (.aload_n 0, 1, []) := by decide +kernel
theorem f_175_27 : mFetch 175 27 = some (.getfield 15, 3, [12, 0, 0, 1561]) := by decide +kernel
theorem f_175_30 : mFetch 175 30 = some (.invokestatic 248, 3, [180, 3, 0, 0, 1505, 1506]) := by decide +kernel
theorem f_175_33 : mFetch 175 33 = some (.pop, 1, []) := by decide +kernel
theorem f_175_34 : mFetch 175 34 = some (.goto 14, 3, [48]) := by decide +kernel
theorem f_175_37 : mFetch 175 37 = some (.iload_n 1, 1, []) := by decide +kernel
theorem f_175_38 : mFetch 175 38 = some (.iload_n 2, 1, []) := by decide +kernel
theorem f_175_39 : mFetch 175 39 = some (.iload_n 3, 1, []) := by decide +kernel
theorem f_175_40 : mFetch 175 40 = some (.aload_n 0, 1, []) := by decide +kernel
theorem f_175_41 : mFetch 175 41 = some (.getfield 15, 3, [12, 0, 0, 1561]) := by decide +kernel
theorem f_175_48 : mFetch 175 48 = some (.aload_n 0, 1, []) := by decide +kernel
theorem f_175_49 : mFetch 175 49 = some (.iload_n 3, 1, []) := by decide +kernel
theorem f_175_50 : mFetch 175 50 = some (.putfield 79, 3, [12, 3, 0, 1564]) := by decide +kernel
theorem f_175_53 : mFetch 175 53 = some (.aload_n 0, 1, []) := by decide +kernel
theorem f_175_54 : mFetch 175 54 = some (.areturn, 1, []) := by decide +kernel
theorem b_175_0 {d : Nat} {a0 : Nat} {x1 : Int32} {w : MW} (h0 : mTg w a0 = 12) : mX (d + 1) 175 0 [.ref a0, .int x1, mJ, mJ] [] w = mThen (mK d 181 [.int x1] w) (fun v w9 => mX (d + 1) 175 10 [.ref a0, .int x1, .int (mI w a0 3), mJ] (v.toList ++ [.int (mI w a0 3)]) w9) := by
  refine Eq.trans (X_st f_175_0 rfl rfl) ?_
  refine Eq.trans (X_getI f_175_1 h0 rfl) ?_
  refine Eq.trans (X_istore_n (L' := [.ref a0, .int x1, .int (mI w a0 3), mJ]) f_175_4 (Nat.le_of_ble_eq_true rfl) rfl) ?_
  refine Eq.trans (X_st f_175_5 rfl rfl) ?_
  refine Eq.trans (X_st f_175_6 rfl rfl) ?_
  refine Eq.trans (X_call f_175_7 (by decide) rfl rfl rfl rfl rfl rfl (Nat.le_of_ble_eq_true rfl) (Nat.le_of_ble_eq_true rfl) rfl (Nat.le_of_ble_eq_true rfl)) ?_
  exact mThen_eq fun v w9 => mX_mask rfl
theorem e_175 {d : Nat} {a0 : Nat} {x1 : Int32} {w : MW} : mK d 175 [.ref a0, .int x1] w = mX d 175 0 [.ref a0, .int x1, mJ, mJ] [] w := rfl
theorem b_175_10 {d : Nat} {a0 : Nat} {x1 : Int32} {x2 : Int32} {y0 : Int32} {y1 : Int32} {w : MW} (h0 : mTg w a0 = 12) : mX (d + 1) 175 10 [.ref a0, .int x1, .int x2, mJ] [.int y0, .int y1] w = mThen (mK d 172 [.ref a0, .int (y1 + y0)] w) (fun v w9 => mX (d + 1) 175 17 [.ref a0, .int x1, .int x2, .int (y1 + y0)] (v.toList ++ []) w9) := by
  refine Eq.trans (X_st f_175_10 rfl rfl) ?_
  refine Eq.trans (X_istore_n (L' := [.ref a0, .int x1, .int x2, .int (y1 + y0)]) f_175_11 (Nat.le_of_ble_eq_true rfl) rfl) ?_
  refine Eq.trans (X_st f_175_12 rfl rfl) ?_
  refine Eq.trans (X_st f_175_13 rfl rfl) ?_
  refine Eq.trans (X_call f_175_14 (by decide) rfl rfl rfl rfl rfl rfl (Nat.le_of_ble_eq_true rfl) (Nat.le_of_ble_eq_true rfl) (decide_eq_true h0) (Nat.le_of_ble_eq_true rfl)) ?_
  exact mThen_eq fun v w9 => mX_mask rfl
theorem b_175_17 {d : Nat} {a0 : Nat} {x1 : Int32} {x2 : Int32} {x3 : Int32} {w : MW} (h0 : mTg w a0 = 12) : mX (d + 1) 175 17 [.ref a0, .int x1, .int x2, .int x3] [] w = mThen (mK d 177 [.ref a0] w) (fun v w9 => mX (d + 1) 175 21 [.ref a0, .int x1, .int x2, .int x3] (v.toList ++ []) w9) := by
  refine Eq.trans (X_st f_175_17 rfl rfl) ?_
  refine Eq.trans (X_call f_175_18 (by decide) rfl rfl rfl rfl rfl rfl (Nat.le_of_ble_eq_true rfl) (Nat.le_of_ble_eq_true rfl) (decide_eq_true h0) (Nat.le_of_ble_eq_true rfl)) ?_
  exact mThen_eq fun v w9 => mX_mask rfl
theorem b_175_21 {d : Nat} {a0 : Nat} {x1 : Int32} {x2 : Int32} {x3 : Int32} {y0 : Int32} {w : MW} : mX d 175 21 [.ref a0, .int x1, .int x2, .int x3] [.int y0] w = (if y0 = nI 0 then mX d 175 37 [.ref a0, .int x1, .int x2, .int x3] [] w else mX d 175 24 [.ref a0, .int x1, mJ, .int x3] [] w) := by
  refine Eq.trans (X_br f_175_21 rfl rfl) ?_
  exact mIte_eq (mX_mask rfl) (mX_mask rfl)
theorem b_175_24 {d : Nat} {a0 : Nat} {x1 : Int32} {x3 : Int32} {w : MW} (h0 : mTg w a0 = 12) (h1 : mR w a0 0 = some (gR w a0 0)) : mX (d + 1) 175 24 [.ref a0, .int x1, mJ, .int x3] [] w = mThen (mK d 180 [.int x1, .int x3, .ref (gR w a0 0)] w) (fun v w9 => mX (d + 1) 175 33 [.ref a0, mJ, mJ, .int x3] (v.toList ++ []) w9) := by
  refine Eq.trans (X_st f_175_24 rfl rfl) ?_
  refine Eq.trans (X_st f_175_25 rfl rfl) ?_
  refine Eq.trans (X_st f_175_26 rfl rfl) ?_
  refine Eq.trans (X_getR f_175_27 h0 rfl h1) ?_
  refine Eq.trans (X_call f_175_30 (by decide) rfl rfl rfl rfl rfl rfl (Nat.le_of_ble_eq_true rfl) (Nat.le_of_ble_eq_true rfl) rfl (Nat.le_of_ble_eq_true rfl)) ?_
  exact mThen_eq fun v w9 => mX_mask rfl
theorem b_175_33 {d : Nat} {a0 : Nat} {x3 : Int32} {y0 : Int32} {w : MW} (h0 : mTg w a0 = 12) (h1 : mE ≤ a0) : mX d 175 33 [.ref a0, mJ, mJ, .int x3] [.int y0] w = mX d 175 53 [.ref a0, mJ, mJ, mJ] [] (wI w a0 3 x3) := by
  refine Eq.trans (X_pop f_175_33 rfl) ?_
  refine Eq.trans (X_st f_175_34 rfl rfl) ?_
  refine Eq.trans (X_st f_175_48 rfl rfl) ?_
  refine Eq.trans (X_st f_175_49 rfl rfl) ?_
  refine Eq.trans (X_putI f_175_50 h0 h1 rfl rfl) ?_
  exact mX_mask rfl
theorem b_175_37 {d : Nat} {a0 : Nat} {x1 : Int32} {x2 : Int32} {x3 : Int32} {w : MW} (h0 : mTg w a0 = 12) (h1 : mR w a0 0 = some (gR w a0 0)) : mX d 175 37 [.ref a0, .int x1, .int x2, .int x3] [] w = mX d 175 44 [mJ, mJ, mJ, mJ] [.ref (gR w a0 0), .int x3, .int x2, .int x1] w := by
  refine Eq.trans (X_st f_175_37 rfl rfl) ?_
  refine Eq.trans (X_st f_175_38 rfl rfl) ?_
  refine Eq.trans (X_st f_175_39 rfl rfl) ?_
  refine Eq.trans (X_st f_175_40 rfl rfl) ?_
  refine Eq.trans (X_getR f_175_41 h0 rfl h1) ?_
  exact mX_mask rfl
theorem b_175_53 {d : Nat} {a0 : Nat} {w : MW} : mX d 175 53 [.ref a0, mJ, mJ, mJ] [] w = some (.inl (some (.ref a0)), w) := by
  refine Eq.trans (X_st f_175_53 rfl rfl) ?_
  exact X_ret f_175_54 rfl rfl
/-! java/lang/AbstractStringBuilder getValue ()[B -/
theorem f_176_0 : mFetch 176 0 = some (.aload_n 0, 1, []) := by decide +kernel
theorem f_176_1 : mFetch 176 1 = some (.getfield 15, 3, [12, 0, 0, 1561]) := by decide +kernel
theorem f_176_4 : mFetch 176 4 = some (.areturn, 1, []) := by decide +kernel
theorem b_176_0 {d : Nat} {a0 : Nat} {w : MW} (h0 : mTg w a0 = 12) (h1 : mR w a0 0 = some (gR w a0 0)) : mX d 176 0 [.ref a0] [] w = some (.inl (some (.ref (gR w a0 0))), w) := by
  refine Eq.trans (X_st f_176_0 rfl rfl) ?_
  refine Eq.trans (X_getR f_176_1 h0 rfl h1) ?_
  exact X_ret f_176_4 rfl rfl
theorem e_176 {d : Nat} {a0 : Nat} {w : MW} : mK d 176 [.ref a0] w = mX d 176 0 [.ref a0] [] w := rfl
/-! java/lang/AbstractStringBuilder isLatin1 ()Z -/
theorem f_177_0 : mFetch 177 0 = some (.getstatic 18, 3, [0, 1446]) := by decide +kernel
theorem f_177_3 : mFetch 177 3 = some (.ifCond .eq 14, 3, [17]) := by decide +kernel
theorem f_177_6 : mFetch 177 6 = some (.aload_n 0, 1, []) := by decide +kernel
theorem f_177_7 : mFetch 177 7 = some (.getfield 22, 3, [12, 1, 0, 1562]) := by decide +kernel
theorem f_177_10 : mFetch 177 10 = some (.ifCond .ne 7, 3, [17]) := by decide +kernel
theorem f_177_13 : mFetch 177 13 = some (.iconst 1, 1, []) := by decide +kernel
theorem f_177_14 : mFetch 177 14 = some (.goto 4, 3, [18]) := by decide +kernel
theorem f_177_17 : mFetch 177 17 = some (.iconst 0, 1, []) := by decide +kernel
theorem f_177_18 : mFetch 177 18 = some (.ireturn, 1, [2]) := by decide +kernel
theorem b_177_0 {d : Nat} {a0 : Nat} {w : MW} : mX d 177 0 [.ref a0] [] w = mX d 177 6 [.ref a0] [] w := by
  refine Eq.trans (X_st f_177_0 rfl rfl) ?_
  refine Eq.trans (X_st f_177_3 rfl rfl) ?_
  exact mX_mask rfl
theorem e_177 {d : Nat} {a0 : Nat} {w : MW} : mK d 177 [.ref a0] w = mX d 177 0 [.ref a0] [] w := rfl
theorem b_177_6 {d : Nat} {a0 : Nat} {w : MW} (h0 : mTg w a0 = 12) : mX d 177 6 [.ref a0] [] w = (if ¬ (mI w a0 1) = nI 0 then mX d 177 17 [mJ] [] w else mX d 177 13 [mJ] [] w) := by
  refine Eq.trans (X_st f_177_6 rfl rfl) ?_
  refine Eq.trans (X_getI f_177_7 h0 rfl) ?_
  refine Eq.trans (X_br f_177_10 rfl rfl) ?_
  exact mIte_eq (mX_mask rfl) (mX_mask rfl)
theorem b_177_13 {d : Nat} {w : MW} : mX d 177 13 [mJ] [] w = mX d 177 18 [mJ] [.int (nI 1)] w := by
  refine Eq.trans (X_iconst f_177_13 kc_i_1) ?_
  refine Eq.trans (X_st f_177_14 rfl rfl) ?_
  exact mX_mask rfl
theorem b_177_17 {d : Nat} {w : MW} : mX d 177 17 [mJ] [] w = mX d 177 18 [mJ] [.int (nI 0)] w := by
  refine Eq.trans (X_iconst f_177_17 kc_i_0) ?_
  exact mX_mask rfl
theorem b_177_18 {d : Nat} {y0 : Int32} {w : MW} (h0 : mRk 2 y0 = true) : mX d 177 18 [mJ] [.int y0] w = some (.inl (some (.int y0)), w) := by
  exact X_ireturn f_177_18 h0
/-! java/lang/AbstractStringBuilder inflateIfNeededFor (Ljava/lang/String;)V -/
theorem f_178_0 : mFetch 178 0 = some (.getstatic 18, 3, [0, 1446]) := by decide +kernel
theorem f_178_3 : mFetch 178 3 = some (.ifCond .eq 18, 3, [21]) := by decide +kernel
theorem f_178_6 : mFetch 178 6 = some (.aload_n 0, 1, []) := by decide +kernel
theorem f_178_7 : mFetch 178 7 = some (.getfield 22, 3, [12, 1, 0, 1562]) := by decide +kernel
theorem f_178_10 : mFetch 178 10 = some (.aload_n 1, 1, []) := by decide +kernel
theorem f_178_11 : mFetch 178 11 = some (.invokevirtual 40, 3, [155, 1, 2, 11, 1462, 946, 947]) := by decide +kernel
theorem f_178_14 : mFetch 178 14 = some (.if_icmp .eq 7, 3, [21]) := by decide +kernel
theorem f_178_17 : mFetch 178 17 = some (.aload_n 0, 1, []) := by decide +kernel
theorem f_178_21 : mFetch 178 21 = some (.return_, 1, []) := by decide +kernel
theorem b_178_0 {d : Nat} {a0 : Nat} {a1 : Nat} {w : MW} : mX d 178 0 [.ref a0, .ref a1] [] w = mX d 178 6 [.ref a0, .ref a1] [] w := by
  refine Eq.trans (X_st f_178_0 rfl rfl) ?_
  refine Eq.trans (X_st f_178_3 rfl rfl) ?_
  exact mX_mask rfl
theorem e_178 {d : Nat} {a0 : Nat} {a1 : Nat} {w : MW} : mK d 178 [.ref a0, .ref a1] w = mX d 178 0 [.ref a0, .ref a1] [] w := rfl
theorem b_178_6 {d : Nat} {a0 : Nat} {a1 : Nat} {w : MW} (h0 : mTg w a0 = 12) (h1 : mTg w a1 = 11) : mX (d + 1) 178 6 [.ref a0, .ref a1] [] w = mThen (mK d 155 [.ref a1] w) (fun v w9 => mX (d + 1) 178 14 [.ref a0, mJ] (v.toList ++ [.int (mI w a0 1)]) w9) := by
  refine Eq.trans (X_st f_178_6 rfl rfl) ?_
  refine Eq.trans (X_getI f_178_7 h0 rfl) ?_
  refine Eq.trans (X_st f_178_10 rfl rfl) ?_
  refine Eq.trans (X_call f_178_11 (by decide) rfl rfl rfl rfl rfl rfl (Nat.le_of_ble_eq_true rfl) (Nat.le_of_ble_eq_true rfl) (decide_eq_true h1) (Nat.le_of_ble_eq_true rfl)) ?_
  exact mThen_eq fun v w9 => mX_mask rfl
theorem b_178_14 {d : Nat} {a0 : Nat} {y0 : Int32} {y1 : Int32} {w : MW} : mX d 178 14 [.ref a0, mJ] [.int y0, .int y1] w = (if y1 = y0 then mX d 178 21 [mJ, mJ] [] w else mX d 178 17 [.ref a0, mJ] [] w) := by
  refine Eq.trans (X_br f_178_14 rfl rfl) ?_
  exact mIte_eq (mX_mask rfl) (mX_mask rfl)
theorem b_178_17 {d : Nat} {a0 : Nat} {w : MW} : mX d 178 17 [.ref a0, mJ] [] w = mX d 178 18 [mJ, mJ] [.ref a0] w := by
  refine Eq.trans (X_st f_178_17 rfl rfl) ?_
  exact mX_mask rfl
theorem b_178_21 {d : Nat} {w : MW} : mX d 178 21 [mJ, mJ] [] w = some (.inl none, w) := by
  exact X_ret f_178_21 rfl rfl
/-! java/lang/AbstractStringBuilder putStringAt (ILjava/lang/String;)V -/
theorem f_179_0 : mFetch 179 0 = some (.aload_n 0, 1, []) := by decide +kernel
theorem f_179_1 : mFetch 179 1 = some (.aload_n 2, 1, []) := by decide +kernel
theorem f_179_2 : mFetch 179 2 = some (.invokevirtual 397, 3, [178, 2, 4, 12, 1458, 1460, 3, 1689, 0, 0]) := by decide +kernel
theorem f_179_5 : mFetch 179 5 = some (.aload_n 2, 1, []) := by decide +kernel
theorem f_179_6 : mFetch 179 6 = some (.aload_n 0, 1, []) := by decide +kernel
theorem f_179_7 : mFetch 179 7 = some (.getfield 15, 3, [12, 0, 0, 1561]) := by decide +kernel
theorem f_179_10 : mFetch 179 10 = some (.iload_n 1, 1, []) := by decide +kernel
theorem f_179_11 : mFetch 179 11 = some (.aload_n 0, 1, []) := by decide +kernel
theorem f_179_12 : mFetch 179 12 = some (.getfield 22, 3, [12, 1, 0, 1562]) := by decide +kernel
theorem f_179_15 : mFetch 179 15 = some (.invokevirtual 399, 3, [153, 4, 2, 11, 1489, 1490, 1491]) := by decide +kernel
theorem f_179_18 : mFetch 179 18 = some (.return_, 1, []) := by decide +kernel
theorem b_179_0 {d : Nat} {a0 : Nat} {x1 : Int32} {a2 : Nat} {w : MW} (h0 : mTg w a0 = 12) : mX (d + 1) 179 0 [.ref a0, .int x1, .ref a2] [] w = mThen (mK d 178 [.ref a0, .ref a2] w) (fun v w9 => mX (d + 1) 179 5 [.ref a0, .int x1, .ref a2] (v.toList ++ []) w9) := by
  refine Eq.trans (X_st f_179_0 rfl rfl) ?_
  refine Eq.trans (X_st f_179_1 rfl rfl) ?_
  refine Eq.trans (X_call f_179_2 (by decide) rfl rfl rfl rfl rfl rfl (Nat.le_of_ble_eq_true rfl) (Nat.le_of_ble_eq_true rfl) (decide_eq_true h0) (Nat.le_of_ble_eq_true rfl)) ?_
  exact mThen_eq fun v w9 => mX_mask rfl
theorem e_179 {d : Nat} {a0 : Nat} {x1 : Int32} {a2 : Nat} {w : MW} : mK d 179 [.ref a0, .int x1, .ref a2] w = mX d 179 0 [.ref a0, .int x1, .ref a2] [] w := rfl
theorem b_179_5 {d : Nat} {a0 : Nat} {x1 : Int32} {a2 : Nat} {w : MW} (h0 : mTg w a0 = 12) (h1 : mR w a0 0 = some (gR w a0 0)) (h2 : mTg w a2 = 11) : mX (d + 1) 179 5 [.ref a0, .int x1, .ref a2] [] w = mThen (mK d 153 [.ref a2, .ref (gR w a0 0), .int x1, .int (mI w a0 1)] w) (fun v w9 => mX (d + 1) 179 18 [mJ, mJ, mJ] (v.toList ++ []) w9) := by
  refine Eq.trans (X_st f_179_5 rfl rfl) ?_
  refine Eq.trans (X_st f_179_6 rfl rfl) ?_
  refine Eq.trans (X_getR f_179_7 h0 rfl h1) ?_
  refine Eq.trans (X_st f_179_10 rfl rfl) ?_
  refine Eq.trans (X_st f_179_11 rfl rfl) ?_
  refine Eq.trans (X_getI f_179_12 h0 rfl) ?_
  refine Eq.trans (X_call f_179_15 (by decide) rfl rfl rfl rfl rfl rfl (Nat.le_of_ble_eq_true rfl) (Nat.le_of_ble_eq_true rfl) (decide_eq_true h2) (Nat.le_of_ble_eq_true rfl)) ?_
  exact mThen_eq fun v w9 => mX_mask rfl
theorem b_179_18 {d : Nat} {w : MW} : mX d 179 18 [mJ, mJ, mJ] [] w = some (.inl none, w) := by
  exact X_ret f_179_18 rfl rfl
/-! java/lang/Integer getChars (II[B)I -/
theorem f_180_0 : mFetch 180 0 = some (.iload_n 1, 1, []) := by decide +kernel
theorem f_180_1 : mFetch 180 1 = some (.istore 5, 2, []) := by decide +kernel
theorem f_180_3 : mFetch 180 3 = some (.iload_n 0, 1, []) := by decide +kernel
theorem f_180_4 : mFetch 180 4 = some (.ifCond .ge 7, 3, [11]) := by decide +kernel
theorem f_180_7 : mFetch 180 7 = some (.iconst 1, 1, []) := by decide +kernel
theorem f_180_8 : mFetch 180 8 = some (.goto 4, 3, [12]) := by decide +kernel
theorem f_180_11 : mFetch 180 11 = some (.iconst 0, 1, []) := by decide +kernel
theorem f_180_12 : mFetch 180 12 = some (.istore 6, 2, []) := by decide +kernel
theorem f_180_14 : mFetch 180 14 = some (.iload 6, 2, []) := by decide +kernel
theorem f_180_16 : mFetch 180 16 = some (.ifCond .ne 6, 3, [22]) := by decide +kernel
theorem f_180_19 : mFetch 180 19 = some (.iload_n 0, 1, []) := by decide +kernel
theorem f_180_20 : mFetch 180 20 = some (.ineg, 1, []) := by decide +kernel
theorem f_180_21 : mFetch 180 21 = some (.istore_n 0, 1, []) := by decide +kernel
theorem f_180_22 : mFetch 180 22 = some (.iload_n 0, 1, []) := by decide +kernel
theorem f_180_23 : mFetch 180 23 = some (.bipush (-100), 2, []) := by decide +kernel
theorem f_180_25 : mFetch 180 25 = some (.if_icmp .gt 47, 3, [72]) := by decide +kernel
theorem f_180_28 : mFetch 180 28 = some (.iload_n 0, 1, []) := by decide +kernel
theorem f_180_29 : mFetch 180 29 = some (.bipush 100, 2, []) := by decide +kernel
theorem f_180_31 : mFetch 180 31 = some (.idiv, 1, []) := by decide +kernel
theorem f_180_32 : mFetch 180 32 = some (.istore_n 3, 1, []) := by decide +kernel
theorem f_180_33 : mFetch 180 33 = some (.iload_n 3, 1, []) := by decide +kernel
theorem f_180_34 : mFetch 180 34 = some (.bipush 100, 2, []) := by decide +kernel
theorem f_180_36 : mFetch 180 36 = some (.imul, 1, []) := by decide +kernel
theorem f_180_37 : mFetch 180 37 = some (.iload_n 0, 1, []) := by decide +kernel
theorem f_180_38 : mFetch 180 38 = some (.isub, 1, []) := by decide +kernel
theorem f_180_39 : mFetch 180 39 = some (.istore 4, 2, []) := by decide +kernel
theorem f_180_41 : mFetch 180 41 = some (.iload_n 3, 1, []) := by decide +kernel
theorem f_180_42 : mFetch 180 42 = some (.istore_n 0, 1, []) := by decide +kernel
theorem f_180_43 : mFetch 180 43 = some (.aload_n 2, 1, []) := by decide +kernel
theorem f_180_44 : mFetch 180 44 = some (.iinc 5 (-1), 3, []) := by decide +kernel
theorem f_180_47 : mFetch 180 47 = some (.iload 5, 2, []) := by decide +kernel
theorem f_180_49 : mFetch 180 49 = some (.getstatic 83, 3, [2, 1508]) := by decide +kernel
theorem f_180_52 : mFetch 180 52 = some (.iload 4, 2, []) := by decide +kernel
theorem f_180_54 : mFetch 180 54 = some (.baload, 1, []) := by decide +kernel
theorem f_180_55 : mFetch 180 55 = some (.bastore, 1, []) := by decide +kernel
theorem f_180_56 : mFetch 180 56 = some (.aload_n 2, 1, []) := by decide +kernel
theorem f_180_57 : mFetch 180 57 = some (.iinc 5 (-1), 3, []) := by decide +kernel
theorem f_180_60 : mFetch 180 60 = some (.iload 5, 2, []) := by decide +kernel
theorem f_180_62 : mFetch 180 62 = some (.getstatic 87, 3, [3, 1510]) := by decide +kernel
theorem f_180_65 : mFetch 180 65 = some (.iload 4, 2, []) := by decide +kernel
theorem f_180_67 : mFetch 180 67 = some (.baload, 1, []) := by decide +kernel
theorem f_180_68 : mFetch 180 68 = some (.bastore, 1, []) := by decide +kernel
theorem f_180_69 : mFetch 180 69 = some (.goto (-47), 3, [22]) := by decide +kernel
theorem f_180_72 : mFetch 180 72 = some (.aload_n 2, 1, []) := by decide +kernel
theorem f_180_73 : mFetch 180 73 = some (.iinc 5 (-1), 3, []) := by decide +kernel
theorem f_180_76 : mFetch 180 76 = some (.iload 5, 2, []) := by decide +kernel
theorem f_180_78 : mFetch 180 78 = some (.getstatic 83, 3, [2, 1508]) := by decide +kernel
theorem f_180_81 : mFetch 180 81 = some (.iload_n 0, 1, []) := by decide +kernel
theorem f_180_82 : mFetch 180 82 = some (.ineg, 1, []) := by decide +kernel
theorem f_180_83 : mFetch 180 83 = some (.baload, 1, []) := by decide +kernel
theorem f_180_84 : mFetch 180 84 = some (.bastore, 1, []) := by decide +kernel
theorem f_180_85 : mFetch 180 85 = some (.iload_n 0, 1, []) := by decide +kernel
theorem f_180_86 : mFetch 180 86 = some (.bipush (-9), 2, []) := by decide +kernel
theorem f_180_88 : mFetch 180 88 = some (.if_icmp .ge 16, 3, [104]) := by decide +kernel
theorem f_180_91 : mFetch 180 91 = some (.aload_n 2, 1, []) := by decide +kernel
theorem f_180_92 : mFetch 180 92 = some (.iinc 5 (-1), 3, []) := by decide +kernel
theorem f_180_95 : mFetch 180 95 = some (.iload 5, 2, []) := by decide +kernel
theorem f_180_97 : mFetch 180 97 = some (.getstatic 87, 3, [3, 1510]) := by decide +kernel
theorem f_180_100 : mFetch 180 100 = some (.iload_n 0, 1, []) := by decide +kernel
theorem f_180_101 : mFetch 180 101 = some (.ineg, 1, []) := by decide +kernel
theorem f_180_102 : mFetch 180 102 = some (.baload, 1, []) := by decide +kernel
theorem f_180_103 : mFetch 180 103 = some (.bastore, 1, []) := by decide +kernel
theorem f_180_104 : mFetch 180 104 = some (.iload 6, 2, []) := by decide +kernel
theorem f_180_106 : mFetch 180 106 = some (.ifCond .eq 12, 3, [118]) := by decide +kernel
theorem f_180_109 : mFetch 180 109 = some (.aload_n 2, 1, []) := by decide +kernel
theorem f_180_110 : mFetch 180 110 = some (.iinc 5 (-1), 3, []) := by decide +kernel
theorem f_180_113 : mFetch 180 113 = some (.iload 5, 2, []) := by decide +kernel
theorem f_180_115 : mFetch 180 115 = some (.bipush 45, 2, []) := by decide +kernel
theorem f_180_117 : mFetch 180 117 = some (.bastore, 1, []) := by decide +kernel
theorem f_180_118 : mFetch 180 118 = some (.iload 5, 2, []) := by decide +kernel
theorem f_180_120 : mFetch 180 120 = some (.ireturn, 1, [0]) := by decide +kernel
theorem b_180_0 {d : Nat} {x0 : Int32} {x1 : Int32} {a2 : Nat} {w : MW} : mX d 180 0 [.int x0, .int x1, .ref a2, mJ, mJ, mJ, mJ] [] w = (if nI 0 ≤ x0 then mX d 180 11 [.int x0, mJ, .ref a2, mJ, mJ, .int x1, mJ] [] w else mX d 180 7 [.int x0, mJ, .ref a2, mJ, mJ, .int x1, mJ] [] w) := by
  refine Eq.trans (X_st f_180_0 rfl rfl) ?_
  refine Eq.trans (X_istore (L' := [.int x0, .int x1, .ref a2, mJ, mJ, .int x1, mJ]) f_180_1 (Nat.le_of_ble_eq_true rfl) rfl) ?_
  refine Eq.trans (X_st f_180_3 rfl rfl) ?_
  refine Eq.trans (X_br f_180_4 rfl rfl) ?_
  exact mIte_eq (mX_mask rfl) (mX_mask rfl)
theorem e_180 {d : Nat} {x0 : Int32} {x1 : Int32} {a2 : Nat} {w : MW} : mK d 180 [.int x0, .int x1, .ref a2] w = mX d 180 0 [.int x0, .int x1, .ref a2, mJ, mJ, mJ, mJ] [] w := rfl
theorem b_180_7 {d : Nat} {x0 : Int32} {a2 : Nat} {x5 : Int32} {w : MW} : mX d 180 7 [.int x0, mJ, .ref a2, mJ, mJ, .int x5, mJ] [] w = mX d 180 12 [.int x0, mJ, .ref a2, mJ, mJ, .int x5, mJ] [.int (nI 1)] w := by
  refine Eq.trans (X_iconst f_180_7 kc_i_1) ?_
  refine Eq.trans (X_st f_180_8 rfl rfl) ?_
  exact mX_mask rfl
theorem b_180_11 {d : Nat} {x0 : Int32} {a2 : Nat} {x5 : Int32} {w : MW} : mX d 180 11 [.int x0, mJ, .ref a2, mJ, mJ, .int x5, mJ] [] w = mX d 180 12 [.int x0, mJ, .ref a2, mJ, mJ, .int x5, mJ] [.int (nI 0)] w := by
  refine Eq.trans (X_iconst f_180_11 kc_i_0) ?_
  exact mX_mask rfl
theorem b_180_12 {d : Nat} {x0 : Int32} {a2 : Nat} {x5 : Int32} {y0 : Int32} {w : MW} : mX d 180 12 [.int x0, mJ, .ref a2, mJ, mJ, .int x5, mJ] [.int y0] w = (if ¬ y0 = nI 0 then mX d 180 22 [.int x0, mJ, .ref a2, mJ, mJ, .int x5, .int y0] [] w else mX d 180 19 [.int x0, mJ, .ref a2, mJ, mJ, .int x5, .int y0] [] w) := by
  refine Eq.trans (X_istore (L' := [.int x0, mJ, .ref a2, mJ, mJ, .int x5, .int y0]) f_180_12 (Nat.le_of_ble_eq_true rfl) rfl) ?_
  refine Eq.trans (X_st f_180_14 rfl rfl) ?_
  refine Eq.trans (X_br f_180_16 rfl rfl) ?_
  exact mIte_eq (mX_mask rfl) (mX_mask rfl)
theorem b_180_19 {d : Nat} {x0 : Int32} {a2 : Nat} {x5 : Int32} {x6 : Int32} {w : MW} : mX d 180 19 [.int x0, mJ, .ref a2, mJ, mJ, .int x5, .int x6] [] w = mX d 180 22 [.int (-x0), mJ, .ref a2, mJ, mJ, .int x5, .int x6] [] w := by
  refine Eq.trans (X_st f_180_19 rfl rfl) ?_
  refine Eq.trans (X_st f_180_20 rfl rfl) ?_
  refine Eq.trans (X_istore_n (L' := [.int (-x0), mJ, .ref a2, mJ, mJ, .int x5, .int x6]) f_180_21 (Nat.le_of_ble_eq_true rfl) rfl) ?_
  exact mX_mask rfl
theorem b_180_22 {d : Nat} {x0 : Int32} {a2 : Nat} {x5 : Int32} {x6 : Int32} {w : MW} : mX d 180 22 [.int x0, mJ, .ref a2, mJ, mJ, .int x5, .int x6] [] w = (if (-100 : Int32) < x0 then mX d 180 72 [.int x0, mJ, .ref a2, mJ, mJ, .int x5, .int x6] [] w else mX d 180 28 [.int x0, mJ, .ref a2, mJ, mJ, .int x5, .int x6] [] w) := by
  refine Eq.trans (X_st f_180_22 rfl rfl) ?_
  refine Eq.trans (X_bipush f_180_23 kc_b_m100) ?_
  refine Eq.trans (X_br f_180_25 rfl rfl) ?_
  exact mIte_eq (mX_mask rfl) (mX_mask rfl)
theorem b_180_28 {d : Nat} {x0 : Int32} {a2 : Nat} {x5 : Int32} {x6 : Int32} {z0 : Nat} {z1 : Nat} {w : MW} (h0 : mTg w 2 = 51) (h1 : (((x0 / (nI 100)) * (nI 100)) - x0) = nI z0) (h2 : z0 < 2147483648) (h3 : z0 < mLn w 2) (h4 : mTg w a2 = 51) (h5 : mE ≤ a2) (h6 : (x5 + (-1 : Int32)) = nI z1) (h7 : z1 < 2147483648) (h8 : z1 < mLn w a2) : mX d 180 28 [.int x0, mJ, .ref a2, mJ, mJ, .int x5, .int x6] [] w = mX d 180 56 [.int (x0 / (nI 100)), mJ, .ref a2, mJ, .int (((x0 / (nI 100)) * (nI 100)) - x0), .int (x5 + (-1 : Int32)), .int x6] [] (wI w a2 z1 ((mI w 2 z0).toInt8.toInt32)) := by
  refine Eq.trans (X_st f_180_28 rfl rfl) ?_
  refine Eq.trans (X_bipush f_180_29 kc_b_100) ?_
  refine Eq.trans (X_idiv f_180_31 kz_100) ?_
  refine Eq.trans (X_istore_n (L' := [.int x0, mJ, .ref a2, .int (x0 / (nI 100)), mJ, .int x5, .int x6]) f_180_32 (Nat.le_of_ble_eq_true rfl) rfl) ?_
  refine Eq.trans (X_st f_180_33 rfl rfl) ?_
  refine Eq.trans (X_bipush f_180_34 kc_b_100) ?_
  refine Eq.trans (X_st f_180_36 rfl rfl) ?_
  refine Eq.trans (X_st f_180_37 rfl rfl) ?_
  refine Eq.trans (X_st f_180_38 rfl rfl) ?_
  refine Eq.trans (X_istore (L' := [.int x0, mJ, .ref a2, .int (x0 / (nI 100)), .int (((x0 / (nI 100)) * (nI 100)) - x0), .int x5, .int x6]) f_180_39 (Nat.le_of_ble_eq_true rfl) rfl) ?_
  refine Eq.trans (X_st f_180_41 rfl rfl) ?_
  refine Eq.trans (X_istore_n (L' := [.int (x0 / (nI 100)), mJ, .ref a2, .int (x0 / (nI 100)), .int (((x0 / (nI 100)) * (nI 100)) - x0), .int x5, .int x6]) f_180_42 (Nat.le_of_ble_eq_true rfl) rfl) ?_
  refine Eq.trans (X_st f_180_43 rfl rfl) ?_
  refine Eq.trans (X_iinc f_180_44 kc_i_m1 rfl rfl) ?_
  refine Eq.trans (X_st f_180_47 rfl rfl) ?_
  refine Eq.trans (X_st f_180_49 rfl rfl) ?_
  refine Eq.trans (X_st f_180_52 rfl rfl) ?_
  refine Eq.trans (X_bald f_180_54 h0 (jnnE h1 h2) (jclE h1 h2) h3) ?_
  refine Eq.trans (X_bast f_180_55 h4 h5 (jnnE h6 h7) (jclE h6 h7) h8) ?_
  exact mX_mask rfl
theorem b_180_56 {d : Nat} {x0 : Int32} {a2 : Nat} {x4 : Nat} {x5 : Int32} {x6 : Int32} {z0 : Nat} {w : MW} (h0 : mTg w 3 = 51) (h1 : x4 < 2147483648) (h2 : x4 < mLn w 3) (h3 : mTg w a2 = 51) (h4 : mE ≤ a2) (h5 : (x5 + (-1 : Int32)) = nI z0) (h6 : z0 < 2147483648) (h7 : z0 < mLn w a2) : mX d 180 56 [.int x0, mJ, .ref a2, mJ, .int (nI x4), .int x5, .int x6] [] w = mX d 180 69 [.int x0, mJ, .ref a2, mJ, mJ, .int (x5 + (-1 : Int32)), .int x6] [] (wI w a2 z0 ((mI w 3 x4).toInt8.toInt32)) := by
  refine Eq.trans (X_st f_180_56 rfl rfl) ?_
  refine Eq.trans (X_iinc f_180_57 kc_i_m1 rfl rfl) ?_
  refine Eq.trans (X_st f_180_60 rfl rfl) ?_
  refine Eq.trans (X_st f_180_62 rfl rfl) ?_
  refine Eq.trans (X_st f_180_65 rfl rfl) ?_
  refine Eq.trans (X_bald f_180_67 h0 (jnn h1) (jcl h1) h2) ?_
  refine Eq.trans (X_bast f_180_68 h3 h4 (jnnE h5 h6) (jclE h5 h6) h7) ?_
  exact mX_mask rfl
theorem b_180_69 {d : Nat} {x0 : Int32} {a2 : Nat} {x5 : Int32} {x6 : Int32} {w : MW} : mX d 180 69 [.int x0, mJ, .ref a2, mJ, mJ, .int x5, .int x6] [] w = mX d 180 22 [.int x0, mJ, .ref a2, mJ, mJ, .int x5, .int x6] [] w := by
  refine Eq.trans (X_st f_180_69 rfl rfl) ?_
  exact mX_mask rfl
theorem b_180_72 {d : Nat} {x0 : Int32} {a2 : Nat} {x5 : Int32} {x6 : Int32} {z0 : Nat} {z1 : Nat} {w : MW} (h0 : mTg w 2 = 51) (h1 : (-x0) = nI z0) (h2 : z0 < 2147483648) (h3 : z0 < mLn w 2) (h4 : mTg w a2 = 51) (h5 : mE ≤ a2) (h6 : (x5 + (-1 : Int32)) = nI z1) (h7 : z1 < 2147483648) (h8 : z1 < mLn w a2) : mX d 180 72 [.int x0, mJ, .ref a2, mJ, mJ, .int x5, .int x6] [] w = mX d 180 85 [.int x0, mJ, .ref a2, mJ, mJ, .int (x5 + (-1 : Int32)), .int x6] [] (wI w a2 z1 ((mI w 2 z0).toInt8.toInt32)) := by
  refine Eq.trans (X_st f_180_72 rfl rfl) ?_
  refine Eq.trans (X_iinc f_180_73 kc_i_m1 rfl rfl) ?_
  refine Eq.trans (X_st f_180_76 rfl rfl) ?_
  refine Eq.trans (X_st f_180_78 rfl rfl) ?_
  refine Eq.trans (X_st f_180_81 rfl rfl) ?_
  refine Eq.trans (X_st f_180_82 rfl rfl) ?_
  refine Eq.trans (X_bald f_180_83 h0 (jnnE h1 h2) (jclE h1 h2) h3) ?_
  refine Eq.trans (X_bast f_180_84 h4 h5 (jnnE h6 h7) (jclE h6 h7) h8) ?_
  exact mX_mask rfl
theorem b_180_85 {d : Nat} {x0 : Int32} {a2 : Nat} {x5 : Int32} {x6 : Int32} {w : MW} : mX d 180 85 [.int x0, mJ, .ref a2, mJ, mJ, .int x5, .int x6] [] w = (if (-9 : Int32) ≤ x0 then mX d 180 104 [mJ, mJ, .ref a2, mJ, mJ, .int x5, .int x6] [] w else mX d 180 91 [.int x0, mJ, .ref a2, mJ, mJ, .int x5, .int x6] [] w) := by
  refine Eq.trans (X_st f_180_85 rfl rfl) ?_
  refine Eq.trans (X_bipush f_180_86 kc_b_m9) ?_
  refine Eq.trans (X_br f_180_88 rfl rfl) ?_
  exact mIte_eq (mX_mask rfl) (mX_mask rfl)
theorem b_180_91 {d : Nat} {x0 : Int32} {a2 : Nat} {x5 : Int32} {x6 : Int32} {z0 : Nat} {z1 : Nat} {w : MW} (h0 : mTg w 3 = 51) (h1 : (-x0) = nI z0) (h2 : z0 < 2147483648) (h3 : z0 < mLn w 3) (h4 : mTg w a2 = 51) (h5 : mE ≤ a2) (h6 : (x5 + (-1 : Int32)) = nI z1) (h7 : z1 < 2147483648) (h8 : z1 < mLn w a2) : mX d 180 91 [.int x0, mJ, .ref a2, mJ, mJ, .int x5, .int x6] [] w = mX d 180 104 [mJ, mJ, .ref a2, mJ, mJ, .int (x5 + (-1 : Int32)), .int x6] [] (wI w a2 z1 ((mI w 3 z0).toInt8.toInt32)) := by
  refine Eq.trans (X_st f_180_91 rfl rfl) ?_
  refine Eq.trans (X_iinc f_180_92 kc_i_m1 rfl rfl) ?_
  refine Eq.trans (X_st f_180_95 rfl rfl) ?_
  refine Eq.trans (X_st f_180_97 rfl rfl) ?_
  refine Eq.trans (X_st f_180_100 rfl rfl) ?_
  refine Eq.trans (X_st f_180_101 rfl rfl) ?_
  refine Eq.trans (X_bald f_180_102 h0 (jnnE h1 h2) (jclE h1 h2) h3) ?_
  refine Eq.trans (X_bast f_180_103 h4 h5 (jnnE h6 h7) (jclE h6 h7) h8) ?_
  exact mX_mask rfl
theorem b_180_104 {d : Nat} {a2 : Nat} {x5 : Int32} {x6 : Int32} {w : MW} : mX d 180 104 [mJ, mJ, .ref a2, mJ, mJ, .int x5, .int x6] [] w = (if x6 = nI 0 then mX d 180 118 [mJ, mJ, mJ, mJ, mJ, .int x5, mJ] [] w else mX d 180 109 [mJ, mJ, .ref a2, mJ, mJ, .int x5, mJ] [] w) := by
  refine Eq.trans (X_st f_180_104 rfl rfl) ?_
  refine Eq.trans (X_br f_180_106 rfl rfl) ?_
  exact mIte_eq (mX_mask rfl) (mX_mask rfl)
theorem b_180_109 {d : Nat} {a2 : Nat} {x5 : Int32} {z0 : Nat} {w : MW} (h0 : mTg w a2 = 51) (h1 : mE ≤ a2) (h2 : (x5 + (-1 : Int32)) = nI z0) (h3 : z0 < 2147483648) (h4 : z0 < mLn w a2) : mX d 180 109 [mJ, mJ, .ref a2, mJ, mJ, .int x5, mJ] [] w = mX d 180 118 [mJ, mJ, mJ, mJ, mJ, .int (x5 + (-1 : Int32)), mJ] [] (wI w a2 z0 ((nI 45).toInt8.toInt32)) := by
  refine Eq.trans (X_st f_180_109 rfl rfl) ?_
  refine Eq.trans (X_iinc f_180_110 kc_i_m1 rfl rfl) ?_
  refine Eq.trans (X_st f_180_113 rfl rfl) ?_
  refine Eq.trans (X_bipush f_180_115 kc_b_45) ?_
  refine Eq.trans (X_bast f_180_117 h0 h1 (jnnE h2 h3) (jclE h2 h3) h4) ?_
  exact mX_mask rfl
theorem b_180_118 {d : Nat} {x5 : Int32} {w : MW} : mX d 180 118 [mJ, mJ, mJ, mJ, mJ, .int x5, mJ] [] w = some (.inl (some (.int x5)), w) := by
  refine Eq.trans (X_st f_180_118 rfl rfl) ?_
  exact X_ireturn f_180_120 rfl
/-! java/lang/Integer stringSize (I)I -/
theorem f_181_0 : mFetch 181 0 = some (.iconst 1, 1, []) := by decide +kernel
theorem f_181_1 : mFetch 181 1 = some (.istore_n 1, 1, []) := by decide +kernel
theorem f_181_2 : mFetch 181 2 = some (.iload_n 0, 1, []) := by decide +kernel
theorem f_181_3 : mFetch 181 3 = some (.ifCond .lt 8, 3, [11]) := by decide +kernel
theorem f_181_6 : mFetch 181 6 = some (.iconst 0, 1, []) := by decide +kernel
theorem f_181_7 : mFetch 181 7 = some (.istore_n 1, 1, []) := by decide +kernel
theorem f_181_8 : mFetch 181 8 = some (.iload_n 0, 1, []) := by decide +kernel
theorem f_181_9 : mFetch 181 9 = some (.ineg, 1, []) := by decide +kernel
theorem f_181_10 : mFetch 181 10 = some (.istore_n 0, 1, []) := by decide +kernel
theorem f_181_11 : mFetch 181 11 = some (.bipush (-10), 2, []) := by decide +kernel
theorem f_181_13 : mFetch 181 13 = some (.istore_n 2, 1, []) := by decide +kernel
theorem f_181_14 : mFetch 181 14 = some (.iconst 1, 1, []) := by decide +kernel
theorem f_181_15 : mFetch 181 15 = some (.istore_n 3, 1, []) := by decide +kernel
theorem f_181_16 : mFetch 181 16 = some (.iload_n 3, 1, []) := by decide +kernel
theorem f_181_17 : mFetch 181 17 = some (.bipush 10, 2, []) := by decide +kernel
theorem f_181_19 : mFetch 181 19 = some (.if_icmp .ge 23, 3, [42]) := by decide +kernel
theorem f_181_22 : mFetch 181 22 = some (.iload_n 0, 1, []) := by decide +kernel
theorem f_181_23 : mFetch 181 23 = some (.iload_n 2, 1, []) := by decide +kernel
theorem f_181_24 : mFetch 181 24 = some (.if_icmp .le 7, 3, [31]) := by decide +kernel
theorem f_181_27 : mFetch 181 27 = some (.iload_n 3, 1, []) := by decide +kernel
theorem f_181_28 : mFetch 181 28 = some (.iload_n 1, 1, []) := by decide +kernel
theorem f_181_29 : mFetch 181 29 = some (.iadd, 1, []) := by decide +kernel
theorem f_181_30 : mFetch 181 30 = some (.ireturn, 1, [0]) := by decide +kernel
theorem f_181_31 : mFetch 181 31 = some (.bipush 10, 2, []) := by decide +kernel
theorem f_181_33 : mFetch 181 33 = some (.iload_n 2, 1, []) := by decide +kernel
theorem f_181_34 : mFetch 181 34 = some (.imul, 1, []) := by decide +kernel
theorem f_181_35 : mFetch 181 35 = some (.istore_n 2, 1, []) := by decide +kernel
theorem f_181_36 : mFetch 181 36 = some (.iinc 3 1, 3, []) := by decide +kernel
theorem f_181_39 : mFetch 181 39 = some (.goto (-23), 3, [16]) := by decide +kernel
theorem f_181_42 : mFetch 181 42 = some (.bipush 10, 2, []) := by decide +kernel
theorem f_181_44 : mFetch 181 44 = some (.iload_n 1, 1, []) := by decide +kernel
theorem f_181_45 : mFetch 181 45 = some (.iadd, 1, []) := by decide +kernel
theorem f_181_46 : mFetch 181 46 = some (.ireturn, 1, [0]) := by decide +kernel
theorem b_181_0 {d : Nat} {x0 : Int32} {w : MW} : mX d 181 0 [.int x0, mJ, mJ, mJ] [] w = (if x0 < nI 0 then mX d 181 11 [.int x0, .int (nI 1), mJ, mJ] [] w else mX d 181 6 [.int x0, mJ, mJ, mJ] [] w) := by
  refine Eq.trans (X_iconst f_181_0 kc_i_1) ?_
  refine Eq.trans (X_istore_n (L' := [.int x0, .int (nI 1), mJ, mJ]) f_181_1 (Nat.le_of_ble_eq_true rfl) rfl) ?_
  refine Eq.trans (X_st f_181_2 rfl rfl) ?_
  refine Eq.trans (X_br f_181_3 rfl rfl) ?_
  exact mIte_eq (mX_mask rfl) (mX_mask rfl)
theorem e_181 {d : Nat} {x0 : Int32} {w : MW} : mK d 181 [.int x0] w = mX d 181 0 [.int x0, mJ, mJ, mJ] [] w := rfl
theorem b_181_6 {d : Nat} {x0 : Int32} {w : MW} : mX d 181 6 [.int x0, mJ, mJ, mJ] [] w = mX d 181 11 [.int (-x0), .int (nI 0), mJ, mJ] [] w := by
  refine Eq.trans (X_iconst f_181_6 kc_i_0) ?_
  refine Eq.trans (X_istore_n (L' := [.int x0, .int (nI 0), mJ, mJ]) f_181_7 (Nat.le_of_ble_eq_true rfl) rfl) ?_
  refine Eq.trans (X_st f_181_8 rfl rfl) ?_
  refine Eq.trans (X_st f_181_9 rfl rfl) ?_
  refine Eq.trans (X_istore_n (L' := [.int (-x0), .int (nI 0), mJ, mJ]) f_181_10 (Nat.le_of_ble_eq_true rfl) rfl) ?_
  exact mX_mask rfl
theorem b_181_11 {d : Nat} {x0 : Int32} {x1 : Int32} {w : MW} : mX d 181 11 [.int x0, .int x1, mJ, mJ] [] w = mX d 181 16 [.int x0, .int x1, .int (-10 : Int32), .int (nI 1)] [] w := by
  refine Eq.trans (X_bipush f_181_11 kc_b_m10) ?_
  refine Eq.trans (X_istore_n (L' := [.int x0, .int x1, .int (-10 : Int32), mJ]) f_181_13 (Nat.le_of_ble_eq_true rfl) rfl) ?_
  refine Eq.trans (X_iconst f_181_14 kc_i_1) ?_
  refine Eq.trans (X_istore_n (L' := [.int x0, .int x1, .int (-10 : Int32), .int (nI 1)]) f_181_15 (Nat.le_of_ble_eq_true rfl) rfl) ?_
  exact mX_mask rfl
theorem b_181_16 {d : Nat} {x0 : Int32} {x1 : Int32} {x2 : Int32} {x3 : Int32} {w : MW} : mX d 181 16 [.int x0, .int x1, .int x2, .int x3] [] w = (if (nI 10) ≤ x3 then mX d 181 42 [mJ, .int x1, mJ, mJ] [] w else mX d 181 22 [.int x0, .int x1, .int x2, .int x3] [] w) := by
  refine Eq.trans (X_st f_181_16 rfl rfl) ?_
  refine Eq.trans (X_bipush f_181_17 kc_b_10) ?_
  refine Eq.trans (X_br f_181_19 rfl rfl) ?_
  exact mIte_eq (mX_mask rfl) (mX_mask rfl)
theorem b_181_22 {d : Nat} {x0 : Int32} {x1 : Int32} {x2 : Int32} {x3 : Int32} {w : MW} : mX d 181 22 [.int x0, .int x1, .int x2, .int x3] [] w = (if x0 ≤ x2 then mX d 181 31 [.int x0, .int x1, .int x2, .int x3] [] w else mX d 181 27 [mJ, .int x1, mJ, .int x3] [] w) := by
  refine Eq.trans (X_st f_181_22 rfl rfl) ?_
  refine Eq.trans (X_st f_181_23 rfl rfl) ?_
  refine Eq.trans (X_br f_181_24 rfl rfl) ?_
  exact mIte_eq (mX_mask rfl) (mX_mask rfl)
theorem b_181_27 {d : Nat} {x1 : Int32} {x3 : Int32} {w : MW} : mX d 181 27 [mJ, .int x1, mJ, .int x3] [] w = some (.inl (some (.int (x3 + x1))), w) := by
  refine Eq.trans (X_st f_181_27 rfl rfl) ?_
  refine Eq.trans (X_st f_181_28 rfl rfl) ?_
  refine Eq.trans (X_st f_181_29 rfl rfl) ?_
  exact X_ireturn f_181_30 rfl
theorem b_181_31 {d : Nat} {x0 : Int32} {x1 : Int32} {x2 : Int32} {x3 : Int32} {w : MW} : mX d 181 31 [.int x0, .int x1, .int x2, .int x3] [] w = mX d 181 16 [.int x0, .int x1, .int ((nI 10) * x2), .int (x3 + (nI 1))] [] w := by
  refine Eq.trans (X_bipush f_181_31 kc_b_10) ?_
  refine Eq.trans (X_st f_181_33 rfl rfl) ?_
  refine Eq.trans (X_st f_181_34 rfl rfl) ?_
  refine Eq.trans (X_istore_n (L' := [.int x0, .int x1, .int ((nI 10) * x2), .int x3]) f_181_35 (Nat.le_of_ble_eq_true rfl) rfl) ?_
  refine Eq.trans (X_iinc f_181_36 kc_i_1 rfl rfl) ?_
  refine Eq.trans (X_st f_181_39 rfl rfl) ?_
  exact mX_mask rfl
theorem b_181_42 {d : Nat} {x1 : Int32} {w : MW} : mX d 181 42 [mJ, .int x1, mJ, mJ] [] w = some (.inl (some (.int ((nI 10) + x1))), w) := by
  refine Eq.trans (X_bipush f_181_42 kc_b_10) ?_
  refine Eq.trans (X_st f_181_44 rfl rfl) ?_
  refine Eq.trans (X_st f_181_45 rfl rfl) ?_
  exact X_ireturn f_181_46 rfl
/-! java/lang/Math max (II)I -/
theorem f_182_0 : mFetch 182 0 = some (.iload_n 0, 1, []) := by decide +kernel
theorem f_182_1 : mFetch 182 1 = some (.iload_n 1, 1, []) := by decide +kernel
theorem f_182_2 : mFetch 182 2 = some (.if_icmp .lt 7, 3, [9]) := by decide +kernel
theorem f_182_5 : mFetch 182 5 = some (.iload_n 0, 1, []) := by decide +kernel
theorem f_182_6 : mFetch 182 6 = some (.goto 4, 3, [10]) := by decide +kernel
theorem f_182_9 : mFetch 182 9 = some (.iload_n 1, 1, []) := by decide +kernel
theorem f_182_10 : mFetch 182 10 = some (.ireturn, 1, [0]) := by decide +kernel
theorem b_182_0 {d : Nat} {x0 : Int32} {x1 : Int32} {w : MW} : mX d 182 0 [.int x0, .int x1] [] w = (if x0 < x1 then mX d 182 9 [mJ, .int x1] [] w else mX d 182 5 [.int x0, mJ] [] w) := by
  refine Eq.trans (X_st f_182_0 rfl rfl) ?_
  refine Eq.trans (X_st f_182_1 rfl rfl) ?_
  refine Eq.trans (X_br f_182_2 rfl rfl) ?_
  exact mIte_eq (mX_mask rfl) (mX_mask rfl)
theorem e_182 {d : Nat} {x0 : Int32} {x1 : Int32} {w : MW} : mK d 182 [.int x0, .int x1] w = mX d 182 0 [.int x0, .int x1] [] w := rfl
theorem b_182_5 {d : Nat} {x0 : Int32} {w : MW} : mX d 182 5 [.int x0, mJ] [] w = mX d 182 10 [mJ, mJ] [.int x0] w := by
  refine Eq.trans (X_st f_182_5 rfl rfl) ?_
  refine Eq.trans (X_st f_182_6 rfl rfl) ?_
  exact mX_mask rfl
theorem b_182_9 {d : Nat} {x1 : Int32} {w : MW} : mX d 182 9 [mJ, .int x1] [] w = mX d 182 10 [mJ, mJ] [.int x1] w := by
  refine Eq.trans (X_st f_182_9 rfl rfl) ?_
  exact mX_mask rfl
theorem b_182_10 {d : Nat} {y0 : Int32} {w : MW} : mX d 182 10 [mJ, mJ] [.int y0] w = some (.inl (some (.int y0)), w) := by
  exact X_ireturn f_182_10 rfl
/-! java/lang/Math min (II)I -/
theorem f_183_0 : mFetch 183 0 = some (.iload_n 0, 1, []) := by decide +kernel
theorem f_183_1 : mFetch 183 1 = some (.iload_n 1, 1, []) := by decide +kernel
theorem f_183_2 : mFetch 183 2 = some (.if_icmp .gt 7, 3, [9]) := by decide +kernel
theorem f_183_5 : mFetch 183 5 = some (.iload_n 0, 1, []) := by decide +kernel
theorem f_183_6 : mFetch 183 6 = some (.goto 4, 3, [10]) := by decide +kernel
theorem f_183_9 : mFetch 183 9 = some (.iload_n 1, 1, []) := by decide +kernel
theorem f_183_10 : mFetch 183 10 = some (.ireturn, 1, [0]) := by decide +kernel
theorem b_183_0 {d : Nat} {x0 : Int32} {x1 : Int32} {w : MW} : mX d 183 0 [.int x0, .int x1] [] w = (if x1 < x0 then mX d 183 9 [mJ, .int x1] [] w else mX d 183 5 [.int x0, mJ] [] w) := by
  refine Eq.trans (X_st f_183_0 rfl rfl) ?_
  refine Eq.trans (X_st f_183_1 rfl rfl) ?_
  refine Eq.trans (X_br f_183_2 rfl rfl) ?_
  exact mIte_eq (mX_mask rfl) (mX_mask rfl)
theorem e_183 {d : Nat} {x0 : Int32} {x1 : Int32} {w : MW} : mK d 183 [.int x0, .int x1] w = mX d 183 0 [.int x0, .int x1] [] w := rfl
theorem b_183_5 {d : Nat} {x0 : Int32} {w : MW} : mX d 183 5 [.int x0, mJ] [] w = mX d 183 10 [mJ, mJ] [.int x0] w := by
  refine Eq.trans (X_st f_183_5 rfl rfl) ?_
  refine Eq.trans (X_st f_183_6 rfl rfl) ?_
  exact mX_mask rfl
theorem b_183_9 {d : Nat} {x1 : Int32} {w : MW} : mX d 183 9 [mJ, .int x1] [] w = mX d 183 10 [mJ, mJ] [.int x1] w := by
  refine Eq.trans (X_st f_183_9 rfl rfl) ?_
  exact mX_mask rfl
theorem b_183_10 {d : Nat} {y0 : Int32} {w : MW} : mX d 183 10 [mJ, mJ] [.int y0] w = some (.inl (some (.int y0)), w) := by
  exact X_ireturn f_183_10 rfl
/-! java/lang/StringLatin1 charAt ([BI)C -/
theorem f_184_0 : mFetch 184 0 = some (.iload_n 1, 1, []) := by decide +kernel
theorem f_184_1 : mFetch 184 1 = some (.aload_n 0, 1, []) := by decide +kernel
theorem f_184_2 : mFetch 184 2 = some (.arraylength, 1, []) := by decide +kernel
theorem f_184_3 : mFetch 184 3 = some (.invokestatic 9, 3, [157, 2, 0, 0, 962, 963]) := by decide +kernel
theorem f_184_6 : mFetch 184 6 = some (.aload_n 0, 1, []) := by decide +kernel
theorem f_184_7 : mFetch 184 7 = some (.iload_n 1, 1, []) := by decide +kernel
theorem f_184_8 : mFetch 184 8 = some (.baload, 1, []) := by decide +kernel
theorem f_184_9 : mFetch 184 9 = some (.sipush 255, 3, []) := by decide +kernel
theorem f_184_12 : mFetch 184 12 = some (.iand, 1, []) := by decide +kernel
theorem f_184_13 : mFetch 184 13 = some (.i2c, 1, []) := by decide +kernel
theorem f_184_14 : mFetch 184 14 = some (.ireturn, 1, [4]) := by decide +kernel
theorem b_184_0 {d : Nat} {a0 : Nat} {x1 : Int32} {w : MW} (h0 : 50 ≤ mTg w a0 ∧ mTg w a0 < 55) : mX (d + 1) 184 0 [.ref a0, .int x1] [] w = mThen (mK d 157 [.int x1, .int (nI (mLn w a0))] w) (fun v w9 => mX (d + 1) 184 6 [.ref a0, .int x1] (v.toList ++ []) w9) := by
  refine Eq.trans (X_st f_184_0 rfl rfl) ?_
  refine Eq.trans (X_st f_184_1 rfl rfl) ?_
  refine Eq.trans (X_st f_184_2 rfl (if_pos h0)) ?_
  refine Eq.trans (X_call f_184_3 (by decide) rfl rfl rfl rfl rfl rfl (Nat.le_of_ble_eq_true rfl) (Nat.le_of_ble_eq_true rfl) rfl (Nat.le_of_ble_eq_true rfl)) ?_
  exact mThen_eq fun v w9 => mX_mask rfl
theorem e_184 {d : Nat} {a0 : Nat} {x1 : Int32} {w : MW} : mK d 184 [.ref a0, .int x1] w = mX d 184 0 [.ref a0, .int x1] [] w := rfl
theorem b_184_6 {d : Nat} {a0 : Nat} {x1 : Nat} {w : MW} (h0 : mTg w a0 = 51) (h1 : x1 < 2147483648) (h2 : x1 < mLn w a0) (h3 : mRk 4 ((((mI w a0 x1) &&& (nI 255)).toUInt32 % 65536).toInt32) = true) : mX d 184 6 [.ref a0, .int (nI x1)] [] w = some (.inl (some (.int (((mI w a0 x1) &&& (nI 255)).toUInt32 % 65536).toInt32)), w) := by
  refine Eq.trans (X_st f_184_6 rfl rfl) ?_
  refine Eq.trans (X_st f_184_7 rfl rfl) ?_
  refine Eq.trans (X_bald f_184_8 h0 (jnn h1) (jcl h1) h2) ?_
  refine Eq.trans (X_sipush f_184_9 kc_s_255) ?_
  refine Eq.trans (X_st f_184_12 rfl rfl) ?_
  refine Eq.trans (X_st f_184_13 rfl rfl) ?_
  exact X_ireturn f_184_14 h3
/-! java/lang/StringLatin1 canEncode (I)Z -/
theorem f_185_0 : mFetch 185 0 = some (.iload_n 0, 1, []) := by decide +kernel
theorem f_185_1 : mFetch 185 1 = some (.ifCond .lt 14, 3, [15]) := by decide +kernel
theorem f_185_4 : mFetch 185 4 = some (.iload_n 0, 1, []) := by decide +kernel
theorem f_185_5 : mFetch 185 5 = some (.sipush 255, 3, []) := by decide +kernel
theorem f_185_8 : mFetch 185 8 = some (.if_icmp .gt 7, 3, [15]) := by decide +kernel
theorem f_185_11 : mFetch 185 11 = some (.iconst 1, 1, []) := by decide +kernel
theorem f_185_12 : mFetch 185 12 = some (.goto 4, 3, [16]) := by decide +kernel
theorem f_185_15 : mFetch 185 15 = some (.iconst 0, 1, []) := by decide +kernel
theorem f_185_16 : mFetch 185 16 = some (.ireturn, 1, [2]) := by decide +kernel
theorem b_185_0 {d : Nat} {x0 : Int32} {w : MW} : mX d 185 0 [.int x0] [] w = (if x0 < nI 0 then mX d 185 15 [mJ] [] w else mX d 185 4 [.int x0] [] w) := by
  refine Eq.trans (X_st f_185_0 rfl rfl) ?_
  refine Eq.trans (X_br f_185_1 rfl rfl) ?_
  exact mIte_eq (mX_mask rfl) (mX_mask rfl)
theorem e_185 {d : Nat} {x0 : Int32} {w : MW} : mK d 185 [.int x0] w = mX d 185 0 [.int x0] [] w := rfl
theorem b_185_4 {d : Nat} {x0 : Int32} {w : MW} : mX d 185 4 [.int x0] [] w = (if (nI 255) < x0 then mX d 185 15 [mJ] [] w else mX d 185 11 [mJ] [] w) := by
  refine Eq.trans (X_st f_185_4 rfl rfl) ?_
  refine Eq.trans (X_sipush f_185_5 kc_s_255) ?_
  refine Eq.trans (X_br f_185_8 rfl rfl) ?_
  exact mIte_eq (mX_mask rfl) (mX_mask rfl)
theorem b_185_11 {d : Nat} {w : MW} : mX d 185 11 [mJ] [] w = mX d 185 16 [mJ] [.int (nI 1)] w := by
  refine Eq.trans (X_iconst f_185_11 kc_i_1) ?_
  refine Eq.trans (X_st f_185_12 rfl rfl) ?_
  exact mX_mask rfl
theorem b_185_15 {d : Nat} {w : MW} : mX d 185 15 [mJ] [] w = mX d 185 16 [mJ] [.int (nI 0)] w := by
  refine Eq.trans (X_iconst f_185_15 kc_i_0) ?_
  exact mX_mask rfl
theorem b_185_16 {d : Nat} {y0 : Int32} {w : MW} (h0 : mRk 2 y0 = true) : mX d 185 16 [mJ] [.int y0] w = some (.inl (some (.int y0)), w) := by
  exact X_ireturn f_185_16 h0
/-! java/lang/StringLatin1 indexOf ([BIII)I -/
theorem f_186_0 : mFetch 186 0 = some (.iload_n 1, 1, []) := by decide +kernel
theorem f_186_1 : mFetch 186 1 = some (.invokestatic 88, 3, [185, 1, 0, 0, 1122, 1123]) := by decide +kernel
theorem f_186_4 : mFetch 186 4 = some (.ifCond .ne 5, 3, [9]) := by decide +kernel
theorem f_186_7 : mFetch 186 7 = some (.iconst (-1), 1, []) := by decide +kernel
theorem f_186_8 : mFetch 186 8 = some (.ireturn, 1, [0]) := by decide +kernel
theorem f_186_9 : mFetch 186 9 = some (.iload_n 2, 1, []) := by decide +kernel
theorem f_186_10 : mFetch 186 10 = some (.iconst 0, 1, []) := by decide +kernel
theorem f_186_11 : mFetch 186 11 = some (.invokestatic 92, 3, [182, 2, 0, 0, 1125, 704]) := by decide +kernel
theorem f_186_14 : mFetch 186 14 = some (.istore_n 2, 1, []) := by decide +kernel
theorem f_186_15 : mFetch 186 15 = some (.iload_n 3, 1, []) := by decide +kernel
theorem f_186_16 : mFetch 186 16 = some (.aload_n 0, 1, []) := by decide +kernel
theorem f_186_17 : mFetch 186 17 = some (.arraylength, 1, []) := by decide +kernel
theorem f_186_18 : mFetch 186 18 = some (.invokestatic 38, 3, [183, 2, 0, 0, 1126, 639]) := by decide +kernel
theorem f_186_21 : mFetch 186 21 = some (.istore_n 3, 1, []) := by decide +kernel
theorem f_186_22 : mFetch 186 22 = some (.iload_n 2, 1, []) := by decide +kernel
theorem f_186_23 : mFetch 186 23 = some (.iload_n 3, 1, []) := by decide +kernel
theorem f_186_24 : mFetch 186 24 = some (.if_icmp .lt 5, 3, [29]) := by decide +kernel
theorem f_186_27 : mFetch 186 27 = some (.iconst (-1), 1, []) := by decide +kernel
theorem f_186_28 : mFetch 186 28 = some (.ireturn, 1, [0]) := by decide +kernel
theorem f_186_29 : mFetch 186 29 = some (.aload_n 0, 1, []) := by decide +kernel
theorem f_186_30 : mFetch 186 30 = some (.iload_n 1, 1, []) := by decide +kernel
theorem f_186_31 : mFetch 186 31 = some (.iload_n 2, 1, []) := by decide +kernel
theorem f_186_32 : mFetch 186 32 = some (.iload_n 3, 1, []) := by decide +kernel
theorem f_186_33 : mFetch 186 33 = some (.invokestatic 95, 3, [187, 4, 0, 0, 1127, 1128]) := by decide +kernel
theorem f_186_36 : mFetch 186 36 = some (.ireturn, 1, [0]) := by decide +kernel
theorem b_186_0 {d : Nat} {a0 : Nat} {x1 : Int32} {x2 : Int32} {x3 : Int32} {w : MW} : mX (d + 1) 186 0 [.ref a0, .int x1, .int x2, .int x3] [] w = mThen (mK d 185 [.int x1] w) (fun v w9 => mX (d + 1) 186 4 [.ref a0, .int x1, .int x2, .int x3] (v.toList ++ []) w9) := by
  refine Eq.trans (X_st f_186_0 rfl rfl) ?_
  refine Eq.trans (X_call f_186_1 (by decide) rfl rfl rfl rfl rfl rfl (Nat.le_of_ble_eq_true rfl) (Nat.le_of_ble_eq_true rfl) rfl (Nat.le_of_ble_eq_true rfl)) ?_
  exact mThen_eq fun v w9 => mX_mask rfl
theorem e_186 {d : Nat} {a0 : Nat} {x1 : Int32} {x2 : Int32} {x3 : Int32} {w : MW} : mK d 186 [.ref a0, .int x1, .int x2, .int x3] w = mX d 186 0 [.ref a0, .int x1, .int x2, .int x3] [] w := rfl
theorem b_186_4 {d : Nat} {a0 : Nat} {x1 : Int32} {x2 : Int32} {x3 : Int32} {y0 : Int32} {w : MW} : mX d 186 4 [.ref a0, .int x1, .int x2, .int x3] [.int y0] w = (if ¬ y0 = nI 0 then mX d 186 9 [.ref a0, .int x1, .int x2, .int x3] [] w else mX d 186 7 [mJ, mJ, mJ, mJ] [] w) := by
  refine Eq.trans (X_br f_186_4 rfl rfl) ?_
  exact mIte_eq (mX_mask rfl) (mX_mask rfl)
theorem b_186_7 {d : Nat} {w : MW} : mX d 186 7 [mJ, mJ, mJ, mJ] [] w = some (.inl (some (.int (-1 : Int32))), w) := by
  refine Eq.trans (X_iconst f_186_7 kc_i_m1) ?_
  exact X_ireturn f_186_8 rfl
theorem b_186_9 {d : Nat} {a0 : Nat} {x1 : Int32} {x2 : Int32} {x3 : Int32} {w : MW} : mX (d + 1) 186 9 [.ref a0, .int x1, .int x2, .int x3] [] w = mThen (mK d 182 [.int x2, .int (nI 0)] w) (fun v w9 => mX (d + 1) 186 14 [.ref a0, .int x1, mJ, .int x3] (v.toList ++ []) w9) := by
  refine Eq.trans (X_st f_186_9 rfl rfl) ?_
  refine Eq.trans (X_iconst f_186_10 kc_i_0) ?_
  refine Eq.trans (X_call f_186_11 (by decide) rfl rfl rfl rfl rfl rfl (Nat.le_of_ble_eq_true rfl) (Nat.le_of_ble_eq_true rfl) rfl (Nat.le_of_ble_eq_true rfl)) ?_
  exact mThen_eq fun v w9 => mX_mask rfl
theorem b_186_14 {d : Nat} {a0 : Nat} {x1 : Int32} {x3 : Int32} {y0 : Int32} {w : MW} (h0 : 50 ≤ mTg w a0 ∧ mTg w a0 < 55) : mX (d + 1) 186 14 [.ref a0, .int x1, mJ, .int x3] [.int y0] w = mThen (mK d 183 [.int x3, .int (nI (mLn w a0))] w) (fun v w9 => mX (d + 1) 186 21 [.ref a0, .int x1, .int y0, mJ] (v.toList ++ []) w9) := by
  refine Eq.trans (X_istore_n (L' := [.ref a0, .int x1, .int y0, .int x3]) f_186_14 (Nat.le_of_ble_eq_true rfl) rfl) ?_
  refine Eq.trans (X_st f_186_15 rfl rfl) ?_
  refine Eq.trans (X_st f_186_16 rfl rfl) ?_
  refine Eq.trans (X_st f_186_17 rfl (if_pos h0)) ?_
  refine Eq.trans (X_call f_186_18 (by decide) rfl rfl rfl rfl rfl rfl (Nat.le_of_ble_eq_true rfl) (Nat.le_of_ble_eq_true rfl) rfl (Nat.le_of_ble_eq_true rfl)) ?_
  exact mThen_eq fun v w9 => mX_mask rfl
theorem b_186_21 {d : Nat} {a0 : Nat} {x1 : Int32} {x2 : Int32} {y0 : Int32} {w : MW} : mX d 186 21 [.ref a0, .int x1, .int x2, mJ] [.int y0] w = (if x2 < y0 then mX d 186 29 [.ref a0, .int x1, .int x2, .int y0] [] w else mX d 186 27 [mJ, mJ, mJ, mJ] [] w) := by
  refine Eq.trans (X_istore_n (L' := [.ref a0, .int x1, .int x2, .int y0]) f_186_21 (Nat.le_of_ble_eq_true rfl) rfl) ?_
  refine Eq.trans (X_st f_186_22 rfl rfl) ?_
  refine Eq.trans (X_st f_186_23 rfl rfl) ?_
  refine Eq.trans (X_br f_186_24 rfl rfl) ?_
  exact mIte_eq (mX_mask rfl) (mX_mask rfl)
theorem b_186_27 {d : Nat} {w : MW} : mX d 186 27 [mJ, mJ, mJ, mJ] [] w = some (.inl (some (.int (-1 : Int32))), w) := by
  refine Eq.trans (X_iconst f_186_27 kc_i_m1) ?_
  exact X_ireturn f_186_28 rfl
theorem b_186_29 {d : Nat} {a0 : Nat} {x1 : Int32} {x2 : Int32} {x3 : Int32} {w : MW} : mX (d + 1) 186 29 [.ref a0, .int x1, .int x2, .int x3] [] w = mThen (mK d 187 [.ref a0, .int x1, .int x2, .int x3] w) (fun v w9 => mX (d + 1) 186 36 [mJ, mJ, mJ, mJ] (v.toList ++ []) w9) := by
  refine Eq.trans (X_st f_186_29 rfl rfl) ?_
  refine Eq.trans (X_st f_186_30 rfl rfl) ?_
  refine Eq.trans (X_st f_186_31 rfl rfl) ?_
  refine Eq.trans (X_st f_186_32 rfl rfl) ?_
  refine Eq.trans (X_call f_186_33 (by decide) rfl rfl rfl rfl rfl rfl (Nat.le_of_ble_eq_true rfl) (Nat.le_of_ble_eq_true rfl) rfl (Nat.le_of_ble_eq_true rfl)) ?_
  exact mThen_eq fun v w9 => mX_mask rfl
theorem b_186_36 {d : Nat} {y0 : Int32} {w : MW} : mX d 186 36 [mJ, mJ, mJ, mJ] [.int y0] w = some (.inl (some (.int y0)), w) := by
  exact X_ireturn f_186_36 rfl
/-! java/lang/StringLatin1 indexOfChar ([BIII)I -/
theorem f_187_0 : mFetch 187 0 = some (.iload_n 1, 1, []) := by decide +kernel
theorem f_187_1 : mFetch 187 1 = some (.i2b, 1, []) := by decide +kernel
theorem f_187_2 : mFetch 187 2 = some (.istore 4, 2, []) := by decide +kernel
theorem f_187_4 : mFetch 187 4 = some (.iload_n 2, 1, []) := by decide +kernel
theorem f_187_5 : mFetch 187 5 = some (.istore 5, 2, []) := by decide +kernel
theorem f_187_7 : mFetch 187 7 = some (.iload 5, 2, []) := by decide +kernel
theorem f_187_9 : mFetch 187 9 = some (.iload_n 3, 1, []) := by decide +kernel
theorem f_187_10 : mFetch 187 10 = some (.if_icmp .ge 21, 3, [31]) := by decide +kernel
theorem f_187_13 : mFetch 187 13 = some (.aload_n 0, 1, []) := by decide +kernel
theorem f_187_14 : mFetch 187 14 = some (.iload 5, 2, []) := by decide +kernel
theorem f_187_16 : mFetch 187 16 = some (.baload, 1, []) := by decide +kernel
theorem f_187_17 : mFetch 187 17 = some (.iload 4, 2, []) := by decide +kernel
theorem f_187_19 : mFetch 187 19 = some (.if_icmp .ne 6, 3, [25]) := by decide +kernel
theorem f_187_22 : mFetch 187 22 = some (.iload 5, 2, []) := by decide +kernel
theorem f_187_24 : mFetch 187 24 = some (.ireturn, 1, [0]) := by decide +kernel
theorem f_187_25 : mFetch 187 25 = some (.iinc 5 1, 3, []) := by decide +kernel
theorem f_187_28 : mFetch 187 28 = some (.goto (-21), 3, [7]) := by decide +kernel
theorem f_187_31 : mFetch 187 31 = some (.iconst (-1), 1, []) := by decide +kernel
theorem f_187_32 : mFetch 187 32 = some (.ireturn, 1, [0]) := by decide +kernel
theorem b_187_0 {d : Nat} {a0 : Nat} {x1 : Int32} {x2 : Int32} {x3 : Int32} {w : MW} : mX d 187 0 [.ref a0, .int x1, .int x2, .int x3, mJ, mJ] [] w = mX d 187 7 [.ref a0, mJ, mJ, .int x3, .int x1.toInt8.toInt32, .int x2] [] w := by
  refine Eq.trans (X_st f_187_0 rfl rfl) ?_
  refine Eq.trans (X_st f_187_1 rfl rfl) ?_
  refine Eq.trans (X_istore (L' := [.ref a0, .int x1, .int x2, .int x3, .int x1.toInt8.toInt32, mJ]) f_187_2 (Nat.le_of_ble_eq_true rfl) rfl) ?_
  refine Eq.trans (X_st f_187_4 rfl rfl) ?_
  refine Eq.trans (X_istore (L' := [.ref a0, .int x1, .int x2, .int x3, .int x1.toInt8.toInt32, .int x2]) f_187_5 (Nat.le_of_ble_eq_true rfl) rfl) ?_
  exact mX_mask rfl
theorem e_187 {d : Nat} {a0 : Nat} {x1 : Int32} {x2 : Int32} {x3 : Int32} {w : MW} : mK d 187 [.ref a0, .int x1, .int x2, .int x3] w = mX d 187 0 [.ref a0, .int x1, .int x2, .int x3, mJ, mJ] [] w := rfl
theorem b_187_7 {d : Nat} {a0 : Nat} {x3 : Int32} {x4 : Int32} {x5 : Int32} {w : MW} : mX d 187 7 [.ref a0, mJ, mJ, .int x3, .int x4, .int x5] [] w = (if x3 ≤ x5 then mX d 187 31 [mJ, mJ, mJ, mJ, mJ, mJ] [] w else mX d 187 13 [.ref a0, mJ, mJ, .int x3, .int x4, .int x5] [] w) := by
  refine Eq.trans (X_st f_187_7 rfl rfl) ?_
  refine Eq.trans (X_st f_187_9 rfl rfl) ?_
  refine Eq.trans (X_br f_187_10 rfl rfl) ?_
  exact mIte_eq (mX_mask rfl) (mX_mask rfl)
theorem b_187_13 {d : Nat} {a0 : Nat} {x3 : Int32} {x4 : Int32} {x5 : Nat} {w : MW} (h0 : mTg w a0 = 51) (h1 : x5 < 2147483648) (h2 : x5 < mLn w a0) : mX d 187 13 [.ref a0, mJ, mJ, .int x3, .int x4, .int (nI x5)] [] w = (if ¬ (mI w a0 x5) = x4 then mX d 187 25 [.ref a0, mJ, mJ, .int x3, .int x4, .int (nI x5)] [] w else mX d 187 22 [mJ, mJ, mJ, mJ, mJ, .int (nI x5)] [] w) := by
  refine Eq.trans (X_st f_187_13 rfl rfl) ?_
  refine Eq.trans (X_st f_187_14 rfl rfl) ?_
  refine Eq.trans (X_bald f_187_16 h0 (jnn h1) (jcl h1) h2) ?_
  refine Eq.trans (X_st f_187_17 rfl rfl) ?_
  refine Eq.trans (X_br f_187_19 rfl rfl) ?_
  exact mIte_eq (mX_mask rfl) (mX_mask rfl)
theorem b_187_22 {d : Nat} {x5 : Int32} {w : MW} : mX d 187 22 [mJ, mJ, mJ, mJ, mJ, .int x5] [] w = some (.inl (some (.int x5)), w) := by
  refine Eq.trans (X_st f_187_22 rfl rfl) ?_
  exact X_ireturn f_187_24 rfl
theorem b_187_25 {d : Nat} {a0 : Nat} {x3 : Int32} {x4 : Int32} {x5 : Int32} {w : MW} : mX d 187 25 [.ref a0, mJ, mJ, .int x3, .int x4, .int x5] [] w = mX d 187 7 [.ref a0, mJ, mJ, .int x3, .int x4, .int (x5 + (nI 1))] [] w := by
  refine Eq.trans (X_iinc f_187_25 kc_i_1 rfl rfl) ?_
  refine Eq.trans (X_st f_187_28 rfl rfl) ?_
  exact mX_mask rfl
theorem b_187_31 {d : Nat} {w : MW} : mX d 187 31 [mJ, mJ, mJ, mJ, mJ, mJ] [] w = some (.inl (some (.int (-1 : Int32))), w) := by
  refine Eq.trans (X_iconst f_187_31 kc_i_m1) ?_
  exact X_ireturn f_187_32 rfl
/-! java/util/Arrays fill ([II)V -/
theorem f_188_0 : mFetch 188 0 = some (.iconst 0, 1, []) := by decide +kernel
theorem f_188_1 : mFetch 188 1 = some (.istore_n 2, 1, []) := by decide +kernel
theorem f_188_2 : mFetch 188 2 = some (.aload_n 0, 1, []) := by decide +kernel
theorem f_188_3 : mFetch 188 3 = some (.arraylength, 1, []) := by decide +kernel
theorem f_188_4 : mFetch 188 4 = some (.istore_n 3, 1, []) := by decide +kernel
theorem f_188_5 : mFetch 188 5 = some (.iload_n 2, 1, []) := by decide +kernel
theorem f_188_6 : mFetch 188 6 = some (.iload_n 3, 1, []) := by decide +kernel
theorem f_188_7 : mFetch 188 7 = some (.if_icmp .ge 13, 3, [20]) := by decide +kernel
theorem f_188_10 : mFetch 188 10 = some (.aload_n 0, 1, []) := by decide +kernel
theorem f_188_11 : mFetch 188 11 = some (.iload_n 2, 1, []) := by decide +kernel
theorem f_188_12 : mFetch 188 12 = some (.iload_n 1, 1, []) := by decide +kernel
theorem f_188_13 : mFetch 188 13 = some (.iastore, 1, []) := by decide +kernel
theorem f_188_14 : mFetch 188 14 = some (.iinc 2 1, 3, []) := by decide +kernel
theorem f_188_17 : mFetch 188 17 = some (.goto (-12), 3, [5]) := by decide +kernel
theorem f_188_20 : mFetch 188 20 = some (.return_, 1, []) := by decide +kernel
theorem b_188_0 {d : Nat} {a0 : Nat} {x1 : Int32} {w : MW} (h0 : 50 ≤ mTg w a0 ∧ mTg w a0 < 55) : mX d 188 0 [.ref a0, .int x1, mJ, mJ] [] w = mX d 188 5 [.ref a0, .int x1, .int (nI 0), .int (nI (mLn w a0))] [] w := by
  refine Eq.trans (X_iconst f_188_0 kc_i_0) ?_
  refine Eq.trans (X_istore_n (L' := [.ref a0, .int x1, .int (nI 0), mJ]) f_188_1 (Nat.le_of_ble_eq_true rfl) rfl) ?_
  refine Eq.trans (X_st f_188_2 rfl rfl) ?_
  refine Eq.trans (X_st f_188_3 rfl (if_pos h0)) ?_
  refine Eq.trans (X_istore_n (L' := [.ref a0, .int x1, .int (nI 0), .int (nI (mLn w a0))]) f_188_4 (Nat.le_of_ble_eq_true rfl) rfl) ?_
  exact mX_mask rfl
theorem e_188 {d : Nat} {a0 : Nat} {x1 : Int32} {w : MW} : mK d 188 [.ref a0, .int x1] w = mX d 188 0 [.ref a0, .int x1, mJ, mJ] [] w := rfl
theorem b_188_5 {d : Nat} {a0 : Nat} {x1 : Int32} {x2 : Int32} {x3 : Int32} {w : MW} : mX d 188 5 [.ref a0, .int x1, .int x2, .int x3] [] w = (if x3 ≤ x2 then mX d 188 20 [mJ, mJ, mJ, mJ] [] w else mX d 188 10 [.ref a0, .int x1, .int x2, .int x3] [] w) := by
  refine Eq.trans (X_st f_188_5 rfl rfl) ?_
  refine Eq.trans (X_st f_188_6 rfl rfl) ?_
  refine Eq.trans (X_br f_188_7 rfl rfl) ?_
  exact mIte_eq (mX_mask rfl) (mX_mask rfl)
theorem b_188_10 {d : Nat} {a0 : Nat} {x1 : Int32} {x2 : Int32} {x3 : Int32} {w : MW} (h0 : mTg w a0 = 50) (h1 : mE ≤ a0) (h2 : ¬ x2 < nI 0) (h3 : x2.toNatClampNeg < mLn w a0) : mX d 188 10 [.ref a0, .int x1, .int x2, .int x3] [] w = mX d 188 5 [.ref a0, .int x1, .int (x2 + (nI 1)), .int x3] [] (wI w a0 x2.toNatClampNeg x1) := by
  refine Eq.trans (X_st f_188_10 rfl rfl) ?_
  refine Eq.trans (X_st f_188_11 rfl rfl) ?_
  refine Eq.trans (X_st f_188_12 rfl rfl) ?_
  refine Eq.trans (X_iast f_188_13 h0 h1 h2 rfl h3) ?_
  refine Eq.trans (X_iinc f_188_14 kc_i_1 rfl rfl) ?_
  refine Eq.trans (X_st f_188_17 rfl rfl) ?_
  exact mX_mask rfl
theorem b_188_20 {d : Nat} {w : MW} : mX d 188 20 [mJ, mJ, mJ, mJ] [] w = some (.inl none, w) := by
  exact X_ret f_188_20 rfl rfl
/-! java/util/Arrays copyOf ([BI)[B -/
theorem f_189_0 : mFetch 189 0 = some (.iload_n 1, 1, []) := by decide +kernel
theorem f_189_1 : mFetch 189 1 = some (.aload_n 0, 1, []) := by decide +kernel
theorem f_189_2 : mFetch 189 2 = some (.arraylength, 1, []) := by decide +kernel
theorem f_189_3 : mFetch 189 3 = some (.if_icmp .ne 11, 3, [14]) := by decide +kernel
theorem f_189_6 : mFetch 189 6 = some (.aload_n 0, 1, []) := by decide +kernel
theorem f_189_7 : mFetch 189 7 = some (.invokevirtual 310, 3, [1001, 1432]) := by decide +kernel
theorem f_189_10 : mFetch 189 10 = some (.checkcast 311, 3, [1438]) := by decide +kernel
theorem f_189_13 : mFetch 189 13 = some (.areturn, 1, []) := by decide +kernel
theorem f_189_14 : mFetch 189 14 = some (.iload_n 1, 1, []) := by decide +kernel
theorem f_189_15 : mFetch 189 15 = some (.newarray .byte, 2, [51]) := by decide +kernel
theorem f_189_17 : mFetch 189 17 = some (.astore_n 2, 1, []) := by decide +kernel
theorem f_189_18 : mFetch 189 18 = some (.aload_n 0, 1, []) := by decide +kernel
theorem f_189_19 : mFetch 189 19 = some (.iconst 0, 1, []) := by decide +kernel
theorem f_189_20 : mFetch 189 20 = some (.aload_n 2, 1, []) := by decide +kernel
theorem f_189_21 : mFetch 189 21 = some (.iconst 0, 1, []) := by decide +kernel
theorem f_189_22 : mFetch 189 22 = some (.aload_n 0, 1, []) := by decide +kernel
theorem f_189_23 : mFetch 189 23 = some (.arraylength, 1, []) := by decide +kernel
theorem f_189_24 : mFetch 189 24 = some (.iload_n 1, 1, []) := by decide +kernel
theorem f_189_25 : mFetch 189 25 = some (.invokestatic 304, 3, [183, 2, 0, 0, 1439, 639]) := by decide +kernel
theorem f_189_28 : mFetch 189 28 = some (.invokestatic 150, 3, [1000, 1440]) := by decide +kernel
theorem f_189_31 : mFetch 189 31 = some (.aload_n 2, 1, []) := by decide +kernel
theorem f_189_32 : mFetch 189 32 = some (.areturn, 1, []) := by decide +kernel
theorem b_189_0 {d : Nat} {a0 : Nat} {x1 : Int32} {w : MW} (h0 : 50 ≤ mTg w a0 ∧ mTg w a0 < 55) : mX d 189 0 [.ref a0, .int x1, mJ] [] w = (if ¬ x1 = (nI (mLn w a0)) then mX d 189 14 [.ref a0, .int x1, mJ] [] w else mX d 189 6 [.ref a0, mJ, mJ] [] w) := by
  refine Eq.trans (X_st f_189_0 rfl rfl) ?_
  refine Eq.trans (X_st f_189_1 rfl rfl) ?_
  refine Eq.trans (X_st f_189_2 rfl (if_pos h0)) ?_
  refine Eq.trans (X_br f_189_3 rfl rfl) ?_
  exact mIte_eq (mX_mask rfl) (mX_mask rfl)
theorem e_189 {d : Nat} {a0 : Nat} {x1 : Int32} {w : MW} : mK d 189 [.ref a0, .int x1] w = mX d 189 0 [.ref a0, .int x1, mJ] [] w := rfl
theorem b_189_6 {d : Nat} {a0 : Nat} {w : MW} (h0 : mTg w a0 = 51 ∧ mE ≤ a0 ∧ 0 ≤ 4) : mX d 189 6 [.ref a0, mJ, mJ] [] w = mX d 189 10 [mJ, mJ, mJ] [.ref (mSz w)] (wK w a0) := by
  refine Eq.trans (X_st f_189_6 rfl rfl) ?_
  refine Eq.trans (X_st f_189_7 rfl (if_pos h0)) ?_
  exact mX_mask rfl
theorem b_189_10 {d : Nat} {b0 : Nat} {w : MW} (h0 : mTg w b0 = 51) (h1 : mE ≤ b0) : mX d 189 10 [mJ, mJ, mJ] [.ref b0] w = some (.inl (some (.ref b0)), w) := by
  refine Eq.trans (X_st f_189_10 rfl (if_pos ⟨h0, h1⟩)) ?_
  exact X_ret f_189_13 rfl rfl
theorem b_189_14 {d : Nat} {a0 : Nat} {x1 : Nat} {w : MW} (h0 : x1 < 2147483648) (h1 : x1 ≤ 134217728) : mX d 189 14 [.ref a0, .int (nI x1), mJ] [] w = mX d 189 17 [.ref a0, .int (nI x1), mJ] [.ref (mSz w)] (wN w 51 x1 x1) := by
  refine Eq.trans (X_st f_189_14 rfl rfl) ?_
  refine Eq.trans (X_newa f_189_15 (jnn h0) (jcl h0) h1) ?_
  exact mX_mask rfl
theorem b_189_17 {d : Nat} {a0 : Nat} {x1 : Int32} {b0 : Nat} {w : MW} (h0 : 50 ≤ mTg w a0 ∧ mTg w a0 < 55) : mX (d + 1) 189 17 [.ref a0, .int x1, mJ] [.ref b0] w = mThen (mK d 183 [.int (nI (mLn w a0)), .int x1] w) (fun v w9 => mX (d + 1) 189 28 [mJ, mJ, .ref b0] (v.toList ++ [.int (nI 0), .ref b0, .int (nI 0), .ref a0]) w9) := by
  refine Eq.trans (X_astore_n (L' := [.ref a0, .int x1, .ref b0]) f_189_17 (Nat.le_of_ble_eq_true rfl) rfl) ?_
  refine Eq.trans (X_st f_189_18 rfl rfl) ?_
  refine Eq.trans (X_iconst f_189_19 kc_i_0) ?_
  refine Eq.trans (X_st f_189_20 rfl rfl) ?_
  refine Eq.trans (X_iconst f_189_21 kc_i_0) ?_
  refine Eq.trans (X_st f_189_22 rfl rfl) ?_
  refine Eq.trans (X_st f_189_23 rfl (if_pos h0)) ?_
  refine Eq.trans (X_st f_189_24 rfl rfl) ?_
  refine Eq.trans (X_call f_189_25 (by decide) rfl rfl rfl rfl rfl rfl (Nat.le_of_ble_eq_true rfl) (Nat.le_of_ble_eq_true rfl) rfl (Nat.le_of_ble_eq_true rfl)) ?_
  exact mThen_eq fun v w9 => mX_mask rfl
theorem b_189_28 {d : Nat} {a2 : Nat} {y0 : Int32} {y1 : Int32} {b2 : Nat} {y3 : Int32} {b4 : Nat} {w : MW} (h0 : (mTg w b4 = 50 ∧ mTg w b2 = 50 ∨ mTg w b4 = 51 ∧ mTg w b2 = 51) ∧ mE ≤ b2 ∧ ¬ y3 < 0 ∧ ¬ y1 < 0 ∧ ¬ y0 < 0 ∧ y3.toNatClampNeg + y0.toNatClampNeg ≤ mLn w b4 ∧ y1.toNatClampNeg + y0.toNatClampNeg ≤ mLn w b2 ∧ 0 ≤ 4) : mX d 189 28 [mJ, mJ, .ref a2] [.int y0, .int y1, .ref b2, .int y3, .ref b4] w = mX d 189 31 [mJ, mJ, .ref a2] [] (wC w b4 y3.toNatClampNeg b2 y1.toNatClampNeg y0.toNatClampNeg) := by
  refine Eq.trans (X_st f_189_28 rfl (if_pos h0)) ?_
  exact mX_mask rfl
theorem b_189_31 {d : Nat} {a2 : Nat} {w : MW} : mX d 189 31 [mJ, mJ, .ref a2] [] w = some (.inl (some (.ref a2)), w) := by
  refine Eq.trans (X_st f_189_31 rfl rfl) ?_
  exact X_ret f_189_32 rfl rfl
/-! java/util/Arrays checkLength (II)V -/
theorem f_190_0 : mFetch 190 0 = some (.iload_n 1, 1, []) := by decide +kernel
theorem f_190_1 : mFetch 190 1 = some (.iload_n 0, 1, []) := by decide +kernel
theorem f_190_2 : mFetch 190 2 = some (.if_icmp .ge 35, 3, [37]) := by decide +kernel
theorem f_190_37 : mFetch 190 37 = some (.return_, 1, []) := by decide +kernel
theorem b_190_0 {d : Nat} {x0 : Int32} {x1 : Int32} {w : MW} : mX d 190 0 [.int x0, .int x1] [] w = (if x0 ≤ x1 then mX d 190 37 [mJ, mJ] [] w else mX d 190 5 [mJ, mJ] [] w) := by
  refine Eq.trans (X_st f_190_0 rfl rfl) ?_
  refine Eq.trans (X_st f_190_1 rfl rfl) ?_
  refine Eq.trans (X_br f_190_2 rfl rfl) ?_
  exact mIte_eq (mX_mask rfl) (mX_mask rfl)
theorem e_190 {d : Nat} {x0 : Int32} {x1 : Int32} {w : MW} : mK d 190 [.int x0, .int x1] w = mX d 190 0 [.int x0, .int x1] [] w := rfl
theorem b_190_37 {d : Nat} {w : MW} : mX d 190 37 [mJ, mJ] [] w = some (.inl none, w) := by
  exact X_ret f_190_37 rfl rfl
/-! java/util/Arrays copyOfRange ([BII)[B -/
theorem f_191_0 : mFetch 191 0 = some (.iload_n 1, 1, []) := by decide +kernel
theorem f_191_1 : mFetch 191 1 = some (.ifCond .ne 9, 3, [10]) := by decide +kernel
theorem f_191_4 : mFetch 191 4 = some (.iload_n 2, 1, []) := by decide +kernel
theorem f_191_5 : mFetch 191 5 = some (.aload_n 0, 1, []) := by decide +kernel
theorem f_191_6 : mFetch 191 6 = some (.arraylength, 1, []) := by decide +kernel
theorem f_191_7 : mFetch 191 7 = some (.if_icmp .eq 10, 3, [17]) := by decide +kernel
theorem f_191_10 : mFetch 191 10 = some (.aload_n 0, 1, []) := by decide +kernel
theorem f_191_11 : mFetch 191 11 = some (.iload_n 1, 1, []) := by decide +kernel
theorem f_191_12 : mFetch 191 12 = some (.iload_n 2, 1, []) := by decide +kernel
theorem f_191_13 : mFetch 191 13 = some (.invokestatic 339, 3, [192, 3, 0, 0, 1603, 1604]) := by decide +kernel
theorem f_191_16 : mFetch 191 16 = some (.areturn, 1, []) := by decide +kernel
theorem f_191_17 : mFetch 191 17 = some (.aload_n 0, 1, []) := by decide +kernel
theorem f_191_18 : mFetch 191 18 = some (.invokevirtual 310, 3, [1001, 1432]) := by decide +kernel
theorem f_191_21 : mFetch 191 21 = some (.checkcast 311, 3, [1438]) := by decide +kernel
theorem f_191_24 : mFetch 191 24 = some (.areturn, 1, []) := by decide +kernel
theorem b_191_0 {d : Nat} {a0 : Nat} {x1 : Int32} {x2 : Int32} {w : MW} : mX d 191 0 [.ref a0, .int x1, .int x2] [] w = (if ¬ x1 = nI 0 then mX d 191 10 [.ref a0, .int x1, .int x2] [] w else mX d 191 4 [.ref a0, .int x1, .int x2] [] w) := by
  refine Eq.trans (X_st f_191_0 rfl rfl) ?_
  refine Eq.trans (X_br f_191_1 rfl rfl) ?_
  exact mIte_eq (mX_mask rfl) (mX_mask rfl)
theorem e_191 {d : Nat} {a0 : Nat} {x1 : Int32} {x2 : Int32} {w : MW} : mK d 191 [.ref a0, .int x1, .int x2] w = mX d 191 0 [.ref a0, .int x1, .int x2] [] w := rfl
theorem b_191_4 {d : Nat} {a0 : Nat} {x1 : Int32} {x2 : Int32} {w : MW} (h0 : 50 ≤ mTg w a0 ∧ mTg w a0 < 55) : mX d 191 4 [.ref a0, .int x1, .int x2] [] w = (if x2 = (nI (mLn w a0)) then mX d 191 17 [.ref a0, mJ, mJ] [] w else mX d 191 10 [.ref a0, .int x1, .int x2] [] w) := by
  refine Eq.trans (X_st f_191_4 rfl rfl) ?_
  refine Eq.trans (X_st f_191_5 rfl rfl) ?_
  refine Eq.trans (X_st f_191_6 rfl (if_pos h0)) ?_
  refine Eq.trans (X_br f_191_7 rfl rfl) ?_
  exact mIte_eq (mX_mask rfl) (mX_mask rfl)
theorem b_191_10 {d : Nat} {a0 : Nat} {x1 : Int32} {x2 : Int32} {w : MW} : mX (d + 1) 191 10 [.ref a0, .int x1, .int x2] [] w = mThen (mK d 192 [.ref a0, .int x1, .int x2] w) (fun v w9 => mX (d + 1) 191 16 [mJ, mJ, mJ] (v.toList ++ []) w9) := by
  refine Eq.trans (X_st f_191_10 rfl rfl) ?_
  refine Eq.trans (X_st f_191_11 rfl rfl) ?_
  refine Eq.trans (X_st f_191_12 rfl rfl) ?_
  refine Eq.trans (X_call f_191_13 (by decide) rfl rfl rfl rfl rfl rfl (Nat.le_of_ble_eq_true rfl) (Nat.le_of_ble_eq_true rfl) rfl (Nat.le_of_ble_eq_true rfl)) ?_
  exact mThen_eq fun v w9 => mX_mask rfl
theorem b_191_16 {d : Nat} {b0 : Nat} {w : MW} : mX d 191 16 [mJ, mJ, mJ] [.ref b0] w = some (.inl (some (.ref b0)), w) := by
  exact X_ret f_191_16 rfl rfl
theorem b_191_17 {d : Nat} {a0 : Nat} {w : MW} (h0 : mTg w a0 = 51 ∧ mE ≤ a0 ∧ 0 ≤ 4) : mX d 191 17 [.ref a0, mJ, mJ] [] w = mX d 191 21 [mJ, mJ, mJ] [.ref (mSz w)] (wK w a0) := by
  refine Eq.trans (X_st f_191_17 rfl rfl) ?_
  refine Eq.trans (X_st f_191_18 rfl (if_pos h0)) ?_
  exact mX_mask rfl
theorem b_191_21 {d : Nat} {b0 : Nat} {w : MW} (h0 : mTg w b0 = 51) (h1 : mE ≤ b0) : mX d 191 21 [mJ, mJ, mJ] [.ref b0] w = some (.inl (some (.ref b0)), w) := by
  refine Eq.trans (X_st f_191_21 rfl (if_pos ⟨h0, h1⟩)) ?_
  exact X_ret f_191_24 rfl rfl
/-! java/util/Arrays copyOfRangeByte ([BII)[B -/
theorem f_192_0 : mFetch 192 0 = some (.iload_n 1, 1, []) := by decide +kernel
theorem f_192_1 : mFetch 192 1 = some (.iload_n 2, 1, []) := by decide +kernel
theorem f_192_2 : mFetch 192 2 = some (.invokestatic 343, 3, [190, 2, 0, 0, 1606, 1607]) := by decide +kernel
theorem f_192_5 : mFetch 192 5 = some (.iload_n 2, 1, []) := by decide +kernel
theorem f_192_6 : mFetch 192 6 = some (.iload_n 1, 1, []) := by decide +kernel
theorem f_192_7 : mFetch 192 7 = some (.isub, 1, []) := by decide +kernel
theorem f_192_8 : mFetch 192 8 = some (.istore_n 3, 1, []) := by decide +kernel
theorem f_192_9 : mFetch 192 9 = some (.iload_n 3, 1, []) := by decide +kernel
theorem f_192_10 : mFetch 192 10 = some (.newarray .byte, 2, [51]) := by decide +kernel
theorem f_192_12 : mFetch 192 12 = some (.astore 4, 2, []) := by decide +kernel
theorem f_192_14 : mFetch 192 14 = some (.aload_n 0, 1, []) := by decide +kernel
theorem f_192_15 : mFetch 192 15 = some (.iload_n 1, 1, []) := by decide +kernel
theorem f_192_16 : mFetch 192 16 = some (.aload 4, 2, []) := by decide +kernel
theorem f_192_18 : mFetch 192 18 = some (.iconst 0, 1, []) := by decide +kernel
theorem f_192_19 : mFetch 192 19 = some (.aload_n 0, 1, []) := by decide +kernel
theorem f_192_20 : mFetch 192 20 = some (.arraylength, 1, []) := by decide +kernel
theorem f_192_21 : mFetch 192 21 = some (.iload_n 1, 1, []) := by decide +kernel
theorem f_192_22 : mFetch 192 22 = some (.isub, 1, []) := by decide +kernel
theorem f_192_23 : mFetch 192 23 = some (.iload_n 3, 1, []) := by decide +kernel
theorem f_192_24 : mFetch 192 24 = some (.invokestatic 304, 3, [183, 2, 0, 0, 1439, 639]) := by decide +kernel
theorem f_192_27 : mFetch 192 27 = some (.invokestatic 150, 3, [1000, 1440]) := by decide +kernel
theorem f_192_30 : mFetch 192 30 = some (.aload 4, 2, []) := by decide +kernel
theorem f_192_32 : mFetch 192 32 = some (.areturn, 1, []) := by decide +kernel
theorem b_192_0 {d : Nat} {a0 : Nat} {x1 : Int32} {x2 : Int32} {w : MW} : mX (d + 1) 192 0 [.ref a0, .int x1, .int x2, mJ, mJ] [] w = mThen (mK d 190 [.int x1, .int x2] w) (fun v w9 => mX (d + 1) 192 5 [.ref a0, .int x1, .int x2, mJ, mJ] (v.toList ++ []) w9) := by
  refine Eq.trans (X_st f_192_0 rfl rfl) ?_
  refine Eq.trans (X_st f_192_1 rfl rfl) ?_
  refine Eq.trans (X_call f_192_2 (by decide) rfl rfl rfl rfl rfl rfl (Nat.le_of_ble_eq_true rfl) (Nat.le_of_ble_eq_true rfl) rfl (Nat.le_of_ble_eq_true rfl)) ?_
  exact mThen_eq fun v w9 => mX_mask rfl
theorem e_192 {d : Nat} {a0 : Nat} {x1 : Int32} {x2 : Int32} {w : MW} : mK d 192 [.ref a0, .int x1, .int x2] w = mX d 192 0 [.ref a0, .int x1, .int x2, mJ, mJ] [] w := rfl
theorem b_192_5 {d : Nat} {a0 : Nat} {x1 : Int32} {x2 : Int32} {z0 : Nat} {w : MW} (h0 : (x2 - x1) = nI z0) (h1 : z0 < 2147483648) (h2 : z0 ≤ 134217728) : mX d 192 5 [.ref a0, .int x1, .int x2, mJ, mJ] [] w = mX d 192 12 [.ref a0, .int x1, mJ, .int (x2 - x1), mJ] [.ref (mSz w)] (wN w 51 z0 z0) := by
  refine Eq.trans (X_st f_192_5 rfl rfl) ?_
  refine Eq.trans (X_st f_192_6 rfl rfl) ?_
  refine Eq.trans (X_st f_192_7 rfl rfl) ?_
  refine Eq.trans (X_istore_n (L' := [.ref a0, .int x1, .int x2, .int (x2 - x1), mJ]) f_192_8 (Nat.le_of_ble_eq_true rfl) rfl) ?_
  refine Eq.trans (X_st f_192_9 rfl rfl) ?_
  refine Eq.trans (X_newa f_192_10 (jnnE h0 h1) (jclE h0 h1) h2) ?_
  exact mX_mask rfl
theorem b_192_12 {d : Nat} {a0 : Nat} {x1 : Int32} {x3 : Int32} {b0 : Nat} {w : MW} (h0 : 50 ≤ mTg w a0 ∧ mTg w a0 < 55) : mX (d + 1) 192 12 [.ref a0, .int x1, mJ, .int x3, mJ] [.ref b0] w = mThen (mK d 183 [.int ((nI (mLn w a0)) - x1), .int x3] w) (fun v w9 => mX (d + 1) 192 27 [mJ, mJ, mJ, mJ, .ref b0] (v.toList ++ [.int (nI 0), .ref b0, .int x1, .ref a0]) w9) := by
  refine Eq.trans (X_astore (L' := [.ref a0, .int x1, mJ, .int x3, .ref b0]) f_192_12 (Nat.le_of_ble_eq_true rfl) rfl) ?_
  refine Eq.trans (X_st f_192_14 rfl rfl) ?_
  refine Eq.trans (X_st f_192_15 rfl rfl) ?_
  refine Eq.trans (X_st f_192_16 rfl rfl) ?_
  refine Eq.trans (X_iconst f_192_18 kc_i_0) ?_
  refine Eq.trans (X_st f_192_19 rfl rfl) ?_
  refine Eq.trans (X_st f_192_20 rfl (if_pos h0)) ?_
  refine Eq.trans (X_st f_192_21 rfl rfl) ?_
  refine Eq.trans (X_st f_192_22 rfl rfl) ?_
  refine Eq.trans (X_st f_192_23 rfl rfl) ?_
  refine Eq.trans (X_call f_192_24 (by decide) rfl rfl rfl rfl rfl rfl (Nat.le_of_ble_eq_true rfl) (Nat.le_of_ble_eq_true rfl) rfl (Nat.le_of_ble_eq_true rfl)) ?_
  exact mThen_eq fun v w9 => mX_mask rfl
theorem b_192_27 {d : Nat} {a4 : Nat} {y0 : Int32} {y1 : Int32} {b2 : Nat} {y3 : Int32} {b4 : Nat} {w : MW} (h0 : (mTg w b4 = 50 ∧ mTg w b2 = 50 ∨ mTg w b4 = 51 ∧ mTg w b2 = 51) ∧ mE ≤ b2 ∧ ¬ y3 < 0 ∧ ¬ y1 < 0 ∧ ¬ y0 < 0 ∧ y3.toNatClampNeg + y0.toNatClampNeg ≤ mLn w b4 ∧ y1.toNatClampNeg + y0.toNatClampNeg ≤ mLn w b2 ∧ 0 ≤ 4) : mX d 192 27 [mJ, mJ, mJ, mJ, .ref a4] [.int y0, .int y1, .ref b2, .int y3, .ref b4] w = mX d 192 30 [mJ, mJ, mJ, mJ, .ref a4] [] (wC w b4 y3.toNatClampNeg b2 y1.toNatClampNeg y0.toNatClampNeg) := by
  refine Eq.trans (X_st f_192_27 rfl (if_pos h0)) ?_
  exact mX_mask rfl
theorem b_192_30 {d : Nat} {a4 : Nat} {w : MW} : mX d 192 30 [mJ, mJ, mJ, mJ, .ref a4] [] w = some (.inl (some (.ref a4)), w) := by
  refine Eq.trans (X_st f_192_30 rfl rfl) ?_
  exact X_ret f_192_32 rfl rfl
/-! jdk/internal/util/ArraysSupport newLength (III)I -/
theorem f_193_0 : mFetch 193 0 = some (.iload_n 0, 1, []) := by decide +kernel
theorem f_193_1 : mFetch 193 1 = some (.iload_n 1, 1, []) := by decide +kernel
theorem f_193_2 : mFetch 193 2 = some (.iload_n 2, 1, []) := by decide +kernel
theorem f_193_3 : mFetch 193 3 = some (.invokestatic 194, 3, [182, 2, 0, 0, 1423, 704]) := by decide +kernel
theorem f_193_6 : mFetch 193 6 = some (.iadd, 1, []) := by decide +kernel
theorem f_193_7 : mFetch 193 7 = some (.istore_n 3, 1, []) := by decide +kernel
theorem f_193_8 : mFetch 193 8 = some (.iconst 0, 1, []) := by decide +kernel
theorem f_193_9 : mFetch 193 9 = some (.iload_n 3, 1, []) := by decide +kernel
theorem f_193_10 : mFetch 193 10 = some (.if_icmp .ge 11, 3, [21]) := by decide +kernel
theorem f_193_13 : mFetch 193 13 = some (.iload_n 3, 1, []) := by decide +kernel
theorem f_193_14 : mFetch 193 14 = some (.ldc 200, 2, [0, 2147483639, 1424]) := by decide +kernel
theorem f_193_16 : mFetch 193 16 = some (.if_icmp .gt 5, 3, [21]) := by decide +kernel
theorem f_193_19 : mFetch 193 19 = some (.iload_n 3, 1, []) := by decide +kernel
theorem f_193_20 : mFetch 193 20 = some (.ireturn, 1, [0]) := by decide +kernel
theorem f_193_21 : mFetch 193 21 = some (.iload_n 0, 1, []) := by decide +kernel
theorem f_193_22 : mFetch 193 22 = some (.iload_n 1, 1, []) := by decide +kernel
theorem b_193_0 {d : Nat} {x0 : Int32} {x1 : Int32} {x2 : Int32} {w : MW} : mX (d + 1) 193 0 [.int x0, .int x1, .int x2, mJ] [] w = mThen (mK d 182 [.int x1, .int x2] w) (fun v w9 => mX (d + 1) 193 6 [.int x0, .int x1, mJ, mJ] (v.toList ++ [.int x0]) w9) := by
  refine Eq.trans (X_st f_193_0 rfl rfl) ?_
  refine Eq.trans (X_st f_193_1 rfl rfl) ?_
  refine Eq.trans (X_st f_193_2 rfl rfl) ?_
  refine Eq.trans (X_call f_193_3 (by decide) rfl rfl rfl rfl rfl rfl (Nat.le_of_ble_eq_true rfl) (Nat.le_of_ble_eq_true rfl) rfl (Nat.le_of_ble_eq_true rfl)) ?_
  exact mThen_eq fun v w9 => mX_mask rfl
theorem e_193 {d : Nat} {x0 : Int32} {x1 : Int32} {x2 : Int32} {w : MW} : mK d 193 [.int x0, .int x1, .int x2] w = mX d 193 0 [.int x0, .int x1, .int x2, mJ] [] w := rfl
theorem b_193_6 {d : Nat} {x0 : Int32} {x1 : Int32} {y0 : Int32} {y1 : Int32} {w : MW} : mX d 193 6 [.int x0, .int x1, mJ, mJ] [.int y0, .int y1] w = (if (y1 + y0) ≤ (nI 0) then mX d 193 21 [.int x0, .int x1, mJ, mJ] [] w else mX d 193 13 [.int x0, .int x1, mJ, .int (y1 + y0)] [] w) := by
  refine Eq.trans (X_st f_193_6 rfl rfl) ?_
  refine Eq.trans (X_istore_n (L' := [.int x0, .int x1, mJ, .int (y1 + y0)]) f_193_7 (Nat.le_of_ble_eq_true rfl) rfl) ?_
  refine Eq.trans (X_iconst f_193_8 kc_i_0) ?_
  refine Eq.trans (X_st f_193_9 rfl rfl) ?_
  refine Eq.trans (X_br f_193_10 rfl rfl) ?_
  exact mIte_eq (mX_mask rfl) (mX_mask rfl)
theorem b_193_13 {d : Nat} {x0 : Int32} {x1 : Int32} {x3 : Int32} {w : MW} : mX d 193 13 [.int x0, .int x1, mJ, .int x3] [] w = (if (nI 2147483639) < x3 then mX d 193 21 [.int x0, .int x1, mJ, mJ] [] w else mX d 193 19 [mJ, mJ, mJ, .int x3] [] w) := by
  refine Eq.trans (X_st f_193_13 rfl rfl) ?_
  refine Eq.trans (X_st f_193_14 rfl rfl) ?_
  refine Eq.trans (X_br f_193_16 rfl rfl) ?_
  exact mIte_eq (mX_mask rfl) (mX_mask rfl)
theorem b_193_19 {d : Nat} {x3 : Int32} {w : MW} : mX d 193 19 [mJ, mJ, mJ, .int x3] [] w = some (.inl (some (.int x3)), w) := by
  refine Eq.trans (X_st f_193_19 rfl rfl) ?_
  exact X_ireturn f_193_20 rfl
theorem b_193_21 {d : Nat} {x0 : Int32} {x1 : Int32} {w : MW} : mX d 193 21 [.int x0, .int x1, mJ, mJ] [] w = mX d 193 23 [mJ, mJ, mJ, mJ] [.int x1, .int x0] w := by
  refine Eq.trans (X_st f_193_21 rfl rfl) ?_
  refine Eq.trans (X_st f_193_22 rfl rfl) ?_
  exact mX_mask rfl
/-! jdk/internal/util/Preconditions checkIndex (IILjava/util/function/BiFunction;)I -/
theorem f_194_0 : mFetch 194 0 = some (.iload_n 0, 1, []) := by decide +kernel
theorem f_194_1 : mFetch 194 1 = some (.ifCond .lt 8, 3, [9]) := by decide +kernel
theorem f_194_4 : mFetch 194 4 = some (.iload_n 0, 1, []) := by decide +kernel
theorem f_194_5 : mFetch 194 5 = some (.iload_n 1, 1, []) := by decide +kernel
theorem f_194_6 : mFetch 194 6 = some (.if_icmp .lt 10, 3, [16]) := by decide +kernel
theorem f_194_9 : mFetch 194 9 = some (.aload_n 2, 1, []) := by decide +kernel
theorem f_194_10 : mFetch 194 10 = some (.iload_n 0, 1, []) := by decide +kernel
theorem f_194_11 : mFetch 194 11 = some (.iload_n 1, 1, []) := by decide +kernel
theorem f_194_16 : mFetch 194 16 = some (.iload_n 0, 1, []) := by decide +kernel
theorem f_194_17 : mFetch 194 17 = some (.ireturn, 1, [0]) := by decide +kernel
theorem b_194_0 {d : Nat} {x0 : Int32} {x1 : Int32} {a2 : Nat} {w : MW} : mX d 194 0 [.int x0, .int x1, .ref a2] [] w = (if x0 < nI 0 then mX d 194 9 [.int x0, .int x1, .ref a2] [] w else mX d 194 4 [.int x0, .int x1, .ref a2] [] w) := by
  refine Eq.trans (X_st f_194_0 rfl rfl) ?_
  refine Eq.trans (X_br f_194_1 rfl rfl) ?_
  exact mIte_eq (mX_mask rfl) (mX_mask rfl)
theorem e_194 {d : Nat} {x0 : Int32} {x1 : Int32} {a2 : Nat} {w : MW} : mK d 194 [.int x0, .int x1, .ref a2] w = mX d 194 0 [.int x0, .int x1, .ref a2] [] w := rfl
theorem b_194_4 {d : Nat} {x0 : Int32} {x1 : Int32} {a2 : Nat} {w : MW} : mX d 194 4 [.int x0, .int x1, .ref a2] [] w = (if x0 < x1 then mX d 194 16 [.int x0, mJ, mJ] [] w else mX d 194 9 [.int x0, .int x1, .ref a2] [] w) := by
  refine Eq.trans (X_st f_194_4 rfl rfl) ?_
  refine Eq.trans (X_st f_194_5 rfl rfl) ?_
  refine Eq.trans (X_br f_194_6 rfl rfl) ?_
  exact mIte_eq (mX_mask rfl) (mX_mask rfl)
theorem b_194_9 {d : Nat} {x0 : Int32} {x1 : Int32} {a2 : Nat} {w : MW} : mX d 194 9 [.int x0, .int x1, .ref a2] [] w = mX d 194 12 [mJ, mJ, mJ] [.int x1, .int x0, .ref a2] w := by
  refine Eq.trans (X_st f_194_9 rfl rfl) ?_
  refine Eq.trans (X_st f_194_10 rfl rfl) ?_
  refine Eq.trans (X_st f_194_11 rfl rfl) ?_
  exact mX_mask rfl
theorem b_194_16 {d : Nat} {x0 : Int32} {w : MW} : mX d 194 16 [.int x0, mJ, mJ] [] w = some (.inl (some (.int x0)), w) := by
  refine Eq.trans (X_st f_194_16 rfl rfl) ?_
  exact X_ireturn f_194_17 rfl
