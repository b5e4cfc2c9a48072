/-! ===== BLOCKS: by program (wip/p26/blk.py) ===== -/
/-! BeeTurnpike$Code <init> ()V -/
theorem f_29_0 : mFetch 29 0 = some (.aload_n 0, 1, []) := by decide +kernel
theorem f_29_1 : mFetch 29 1 = some (.invokespecial 3, 3, [1002, 162]) := by decide +kernel
theorem f_29_4 : mFetch 29 4 = some (.aload_n 0, 1, []) := by decide +kernel
theorem f_29_5 : mFetch 29 5 = some (.sipush 400, 3, []) := by decide +kernel
theorem f_29_8 : mFetch 29 8 = some (.newarray .int, 2, [50]) := by decide +kernel
theorem f_29_10 : mFetch 29 10 = some (.putfield 9, 3, [1, 0, 0, 163]) := by decide +kernel
theorem f_29_13 : mFetch 29 13 = some (.aload_n 0, 1, []) := by decide +kernel
theorem f_29_14 : mFetch 29 14 = some (.sipush 400, 3, []) := by decide +kernel
theorem f_29_17 : mFetch 29 17 = some (.newarray .int, 2, [50]) := by decide +kernel
theorem f_29_19 : mFetch 29 19 = some (.putfield 15, 3, [1, 1, 0, 165]) := by decide +kernel
theorem f_29_22 : mFetch 29 22 = some (.return_, 1, []) := by decide +kernel
theorem b_29_0 {d : Nat} {a0 : Nat} {w : MW} (h0 : mE ≤ a0) (h1 : mTg (wN w 50 400 400) a0 = 1) (h2 : mTg (wN (wR (wN w 50 400 400) a0 0 (some (mSz w))) 50 400 400) a0 = 1) : mX d 29 0 [.ref a0] [] w = mX d 29 22 [mJ] [] (wR (wN (wR (wN w 50 400 400) a0 0 (some (mSz w))) 50 400 400) a0 1 (some (mSz (wR (wN w 50 400 400) a0 0 (some (mSz w)))))) := by
  refine Eq.trans (X_st f_29_0 rfl rfl) ?_
  refine Eq.trans (X_st f_29_1 rfl (if_pos ⟨h0, Nat.le_of_ble_eq_true rfl⟩)) ?_
  refine Eq.trans (X_st f_29_4 rfl rfl) ?_
  refine Eq.trans (X_sipush f_29_5 kc_s_400) ?_
  refine Eq.trans (X_newa f_29_8 kn_400 kl_400 (Nat.le_of_ble_eq_true rfl)) ?_
  refine Eq.trans (X_putR f_29_10 h1 h0 rfl) ?_
  refine Eq.trans (X_st f_29_13 rfl rfl) ?_
  refine Eq.trans (X_sipush f_29_14 kc_s_400) ?_
  refine Eq.trans (X_newa f_29_17 kn_400 kl_400 (Nat.le_of_ble_eq_true rfl)) ?_
  refine Eq.trans (X_putR f_29_19 h2 h0 rfl) ?_
  exact mX_mask rfl
theorem e_29 {d : Nat} {a0 : Nat} {w : MW} : mK d 29 [.ref a0] w = mX d 29 0 [.ref a0] [] w := rfl
theorem b_29_22 {d : Nat} {w : MW} : mX d 29 22 [mJ] [] w = some (.inl none, w) := by
  exact X_ret f_29_22 rfl rfl
/-! BeeTurnpike$Code add (II)V -/
theorem f_30_0 : mFetch 30 0 = some (.aload_n 0, 1, []) := by decide +kernel
theorem f_30_1 : mFetch 30 1 = some (.getfield 9, 3, [1, 0, 0, 163]) := by decide +kernel
theorem f_30_4 : mFetch 30 4 = some (.aload_n 0, 1, []) := by decide +kernel
theorem f_30_5 : mFetch 30 5 = some (.getfield 18, 3, [1, 2, 0, 167]) := by decide +kernel
theorem f_30_8 : mFetch 30 8 = some (.iload_n 1, 1, []) := by decide +kernel
theorem f_30_9 : mFetch 30 9 = some (.invokestatic 22, 3, [124, 3, 1, 0, 35, 689]) := by decide +kernel
theorem f_30_12 : mFetch 30 12 = some (.aload_n 0, 1, []) := by decide +kernel
theorem f_30_13 : mFetch 30 13 = some (.getfield 15, 3, [1, 1, 0, 165]) := by decide +kernel
theorem f_30_16 : mFetch 30 16 = some (.aload_n 0, 1, []) := by decide +kernel
theorem f_30_17 : mFetch 30 17 = some (.getfield 18, 3, [1, 2, 0, 167]) := by decide +kernel
theorem f_30_20 : mFetch 30 20 = some (.iload_n 2, 1, []) := by decide +kernel
theorem f_30_21 : mFetch 30 21 = some (.invokestatic 22, 3, [124, 3, 1, 0, 35, 689]) := by decide +kernel
theorem f_30_24 : mFetch 30 24 = some (.aload_n 0, 1, []) := by decide +kernel
theorem f_30_25 : mFetch 30 25 = some (.aload_n 0, 1, []) := by decide +kernel
theorem f_30_26 : mFetch 30 26 = some (.getfield 18, 3, [1, 2, 0, 167]) := by decide +kernel
theorem f_30_29 : mFetch 30 29 = some (.iconst 1, 1, []) := by decide +kernel
theorem f_30_30 : mFetch 30 30 = some (.iadd, 1, []) := by decide +kernel
theorem f_30_31 : mFetch 30 31 = some (.sipush 400, 3, []) := by decide +kernel
theorem f_30_34 : mFetch 30 34 = some (.invokestatic 26, 3, [183, 2, 0, 0, 1209, 639]) := by decide +kernel
theorem f_30_37 : mFetch 30 37 = some (.putfield 18, 3, [1, 2, 0, 167]) := by decide +kernel
theorem f_30_40 : mFetch 30 40 = some (.return_, 1, []) := by decide +kernel
theorem b_30_0 {d : Nat} {a0 : Nat} {x1 : Int32} {x2 : Int32} {w : MW} (h0 : mTg w a0 = 1) (h1 : mR w a0 0 = some (gR w a0 0)) : mX (d + 1) 30 0 [.ref a0, .int x1, .int x2] [] w = mThen (mK d 124 [.ref (gR w a0 0), .int (mI w a0 2), .int x1] w) (fun v w9 => mX (d + 1) 30 12 [.ref a0, mJ, .int x2] (v.toList ++ []) w9) := by
  refine Eq.trans (X_st f_30_0 rfl rfl) ?_
  refine Eq.trans (X_getR f_30_1 h0 rfl h1) ?_
  refine Eq.trans (X_st f_30_4 rfl rfl) ?_
  refine Eq.trans (X_getI f_30_5 h0 rfl) ?_
  refine Eq.trans (X_st f_30_8 rfl rfl) ?_
  refine Eq.trans (X_call f_30_9 (by decide) rfl rfl rfl rfl rfl rfl (Nat.le_of_ble_eq_true rfl) (Nat.le_of_ble_eq_true rfl) rfl (Nat.le_of_ble_eq_true rfl)) ?_
  exact mThen_eq fun v w9 => mX_mask rfl
theorem e_30 {d : Nat} {a0 : Nat} {x1 : Int32} {x2 : Int32} {w : MW} : mK d 30 [.ref a0, .int x1, .int x2] w = mX d 30 0 [.ref a0, .int x1, .int x2] [] w := rfl
theorem b_30_12 {d : Nat} {a0 : Nat} {x2 : Int32} {w : MW} (h0 : mTg w a0 = 1) (h1 : mR w a0 1 = some (gR w a0 1)) : mX (d + 1) 30 12 [.ref a0, mJ, .int x2] [] w = mThen (mK d 124 [.ref (gR w a0 1), .int (mI w a0 2), .int x2] w) (fun v w9 => mX (d + 1) 30 24 [.ref a0, mJ, mJ] (v.toList ++ []) w9) := by
  refine Eq.trans (X_st f_30_12 rfl rfl) ?_
  refine Eq.trans (X_getR f_30_13 h0 rfl h1) ?_
  refine Eq.trans (X_st f_30_16 rfl rfl) ?_
  refine Eq.trans (X_getI f_30_17 h0 rfl) ?_
  refine Eq.trans (X_st f_30_20 rfl rfl) ?_
  refine Eq.trans (X_call f_30_21 (by decide) rfl rfl rfl rfl rfl rfl (Nat.le_of_ble_eq_true rfl) (Nat.le_of_ble_eq_true rfl) rfl (Nat.le_of_ble_eq_true rfl)) ?_
  exact mThen_eq fun v w9 => mX_mask rfl
theorem b_30_24 {d : Nat} {a0 : Nat} {w : MW} (h0 : mTg w a0 = 1) : mX (d + 1) 30 24 [.ref a0, mJ, mJ] [] w = mThen (mK d 183 [.int ((mI w a0 2) + (nI 1)), .int (nI 400)] w) (fun v w9 => mX (d + 1) 30 37 [mJ, mJ, mJ] (v.toList ++ [.ref a0]) w9) := by
  refine Eq.trans (X_st f_30_24 rfl rfl) ?_
  refine Eq.trans (X_st f_30_25 rfl rfl) ?_
  refine Eq.trans (X_getI f_30_26 h0 rfl) ?_
  refine Eq.trans (X_iconst f_30_29 kc_i_1) ?_
  refine Eq.trans (X_st f_30_30 rfl rfl) ?_
  refine Eq.trans (X_sipush f_30_31 kc_s_400) ?_
  refine Eq.trans (X_call f_30_34 (by decide) rfl rfl rfl rfl rfl rfl (Nat.le_of_ble_eq_true rfl) (Nat.le_of_ble_eq_true rfl) rfl (Nat.le_of_ble_eq_true rfl)) ?_
  exact mThen_eq fun v w9 => mX_mask rfl
theorem b_30_37 {d : Nat} {y0 : Int32} {b1 : Nat} {w : MW} (h0 : mTg w b1 = 1) (h1 : mE ≤ b1) : mX d 30 37 [mJ, mJ, mJ] [.int y0, .ref b1] w = some (.inl none, wI w b1 2 y0) := by
  refine Eq.trans (X_putI f_30_37 h0 h1 rfl rfl) ?_
  exact X_ret f_30_40 rfl rfl
/-! BeeTurnpike$Code settle (LBeeTurnpike$Tokens;)V -/
theorem f_31_0 : mFetch 31 0 = some (.iconst 0, 1, []) := by decide +kernel
theorem f_31_1 : mFetch 31 1 = some (.istore_n 2, 1, []) := by decide +kernel
theorem f_31_2 : mFetch 31 2 = some (.iload_n 2, 1, []) := by decide +kernel
theorem f_31_3 : mFetch 31 3 = some (.aload_n 0, 1, []) := by decide +kernel
theorem f_31_4 : mFetch 31 4 = some (.getfield 18, 3, [1, 2, 0, 167]) := by decide +kernel
theorem f_31_7 : mFetch 31 7 = some (.if_icmp .ge 32, 3, [39]) := by decide +kernel
theorem f_31_10 : mFetch 31 10 = some (.aload_n 0, 1, []) := by decide +kernel
theorem f_31_11 : mFetch 31 11 = some (.getfield 15, 3, [1, 1, 0, 165]) := by decide +kernel
theorem f_31_14 : mFetch 31 14 = some (.iload_n 2, 1, []) := by decide +kernel
theorem f_31_15 : mFetch 31 15 = some (.aload_n 1, 1, []) := by decide +kernel
theorem f_31_16 : mFetch 31 16 = some (.getfield 32, 3, [7, 5, 1, 36]) := by decide +kernel
theorem f_31_19 : mFetch 31 19 = some (.aload_n 0, 1, []) := by decide +kernel
theorem f_31_20 : mFetch 31 20 = some (.getfield 15, 3, [1, 1, 0, 165]) := by decide +kernel
theorem f_31_23 : mFetch 31 23 = some (.iload_n 2, 1, []) := by decide +kernel
theorem f_31_24 : mFetch 31 24 = some (.invokestatic 37, 3, [123, 2, 1, 0, 37, 559]) := by decide +kernel
theorem f_31_27 : mFetch 31 27 = some (.invokestatic 37, 3, [123, 2, 1, 0, 37, 559]) := by decide +kernel
theorem f_31_30 : mFetch 31 30 = some (.invokestatic 22, 3, [124, 3, 1, 0, 35, 689]) := by decide +kernel
theorem f_31_33 : mFetch 31 33 = some (.iinc 2 1, 3, []) := by decide +kernel
theorem f_31_36 : mFetch 31 36 = some (.goto (-34), 3, [2]) := by decide +kernel
theorem f_31_39 : mFetch 31 39 = some (.return_, 1, []) := by decide +kernel
theorem b_31_0 {d : Nat} {a0 : Nat} {a1 : Nat} {w : MW} : mX d 31 0 [.ref a0, .ref a1, mJ] [] w = mX d 31 2 [.ref a0, .ref a1, .int (nI 0)] [] w := by
  refine Eq.trans (X_iconst f_31_0 kc_i_0) ?_
  refine Eq.trans (X_istore_n (L' := [.ref a0, .ref a1, .int (nI 0)]) f_31_1 (Nat.le_of_ble_eq_true rfl) rfl) ?_
  exact mX_mask rfl
theorem e_31 {d : Nat} {a0 : Nat} {a1 : Nat} {w : MW} : mK d 31 [.ref a0, .ref a1] w = mX d 31 0 [.ref a0, .ref a1, mJ] [] w := rfl
theorem b_31_2 {d : Nat} {a0 : Nat} {a1 : Nat} {x2 : Int32} {w : MW} (h0 : mTg w a0 = 1) : mX d 31 2 [.ref a0, .ref a1, .int x2] [] w = (if (mI w a0 2) ≤ x2 then mX d 31 39 [mJ, mJ, mJ] [] w else mX d 31 10 [.ref a0, .ref a1, .int x2] [] w) := by
  refine Eq.trans (X_st f_31_2 rfl rfl) ?_
  refine Eq.trans (X_st f_31_3 rfl rfl) ?_
  refine Eq.trans (X_getI f_31_4 h0 rfl) ?_
  refine Eq.trans (X_br f_31_7 rfl rfl) ?_
  exact mIte_eq (mX_mask rfl) (mX_mask rfl)
theorem b_31_10 {d : Nat} {a0 : Nat} {a1 : Nat} {x2 : Int32} {w : MW} (h0 : mTg w a0 = 1) (h1 : mR w a0 1 = some (gR w a0 1)) (h2 : mTg w a1 = 7) (h3 : mR w a1 5 = some (gR w a1 5)) : mX (d + 1) 31 10 [.ref a0, .ref a1, .int x2] [] w = mThen (mK d 123 [.ref (gR w a0 1), .int x2] w) (fun v w9 => mX (d + 1) 31 27 [.ref a0, .ref a1, .int x2] (v.toList ++ [.ref (gR w a1 5), .int x2, .ref (gR w a0 1)]) w9) := by
  refine Eq.trans (X_st f_31_10 rfl rfl) ?_
  refine Eq.trans (X_getR f_31_11 h0 rfl h1) ?_
  refine Eq.trans (X_st f_31_14 rfl rfl) ?_
  refine Eq.trans (X_st f_31_15 rfl rfl) ?_
  refine Eq.trans (X_getR f_31_16 h2 rfl h3) ?_
  refine Eq.trans (X_st f_31_19 rfl rfl) ?_
  refine Eq.trans (X_getR f_31_20 h0 rfl h1) ?_
  refine Eq.trans (X_st f_31_23 rfl rfl) ?_
  refine Eq.trans (X_call f_31_24 (by decide) rfl rfl rfl rfl rfl rfl (Nat.le_of_ble_eq_true rfl) (Nat.le_of_ble_eq_true rfl) rfl (Nat.le_of_ble_eq_true rfl)) ?_
  exact mThen_eq fun v w9 => mX_mask rfl
theorem b_31_27 {d : Nat} {a0 : Nat} {a1 : Nat} {x2 : Int32} {y0 : Int32} {b1 : Nat} {y2 : Int32} {b3 : Nat} {w : MW} : mX (d + 1) 31 27 [.ref a0, .ref a1, .int x2] [.int y0, .ref b1, .int y2, .ref b3] w = mThen (mK d 123 [.ref b1, .int y0] w) (fun v w9 => mX (d + 1) 31 30 [.ref a0, .ref a1, .int x2] (v.toList ++ [.int y2, .ref b3]) w9) := by
  refine Eq.trans (X_call f_31_27 (by decide) rfl rfl rfl rfl rfl rfl (Nat.le_of_ble_eq_true rfl) (Nat.le_of_ble_eq_true rfl) rfl (Nat.le_of_ble_eq_true rfl)) ?_
  exact mThen_eq fun v w9 => mX_mask rfl
theorem b_31_30 {d : Nat} {a0 : Nat} {a1 : Nat} {x2 : Int32} {y0 : Int32} {y1 : Int32} {b2 : Nat} {w : MW} : mX (d + 1) 31 30 [.ref a0, .ref a1, .int x2] [.int y0, .int y1, .ref b2] w = mThen (mK d 124 [.ref b2, .int y1, .int y0] w) (fun v w9 => mX (d + 1) 31 33 [.ref a0, .ref a1, .int x2] (v.toList ++ []) w9) := by
  refine Eq.trans (X_call f_31_30 (by decide) rfl rfl rfl rfl rfl rfl (Nat.le_of_ble_eq_true rfl) (Nat.le_of_ble_eq_true rfl) rfl (Nat.le_of_ble_eq_true rfl)) ?_
  exact mThen_eq fun v w9 => mX_mask rfl
theorem b_31_33 {d : Nat} {a0 : Nat} {a1 : Nat} {x2 : Int32} {w : MW} : mX d 31 33 [.ref a0, .ref a1, .int x2] [] w = mX d 31 2 [.ref a0, .ref a1, .int (x2 + (nI 1))] [] w := by
  refine Eq.trans (X_iinc f_31_33 kc_i_1 rfl rfl) ?_
  refine Eq.trans (X_st f_31_36 rfl rfl) ?_
  exact mX_mask rfl
theorem b_31_39 {d : Nat} {w : MW} : mX d 31 39 [mJ, mJ, mJ] [] w = some (.inl none, w) := by
  exact X_ret f_31_39 rfl rfl
/-! BeeTurnpike$Code copyFrom (LBeeTurnpike$Code;)V -/
theorem f_32_0 : mFetch 32 0 = some (.aload_n 1, 1, []) := by decide +kernel
theorem f_32_1 : mFetch 32 1 = some (.getfield 9, 3, [1, 0, 0, 163]) := by decide +kernel
theorem f_32_4 : mFetch 32 4 = some (.aload_n 0, 1, []) := by decide +kernel
theorem f_32_5 : mFetch 32 5 = some (.getfield 9, 3, [1, 0, 0, 163]) := by decide +kernel
theorem f_32_8 : mFetch 32 8 = some (.invokestatic 41, 3, [125, 2, 1, 0, 38, 771]) := by decide +kernel
theorem f_32_11 : mFetch 32 11 = some (.aload_n 1, 1, []) := by decide +kernel
theorem f_32_12 : mFetch 32 12 = some (.getfield 15, 3, [1, 1, 0, 165]) := by decide +kernel
theorem f_32_15 : mFetch 32 15 = some (.aload_n 0, 1, []) := by decide +kernel
theorem f_32_16 : mFetch 32 16 = some (.getfield 15, 3, [1, 1, 0, 165]) := by decide +kernel
theorem f_32_19 : mFetch 32 19 = some (.invokestatic 41, 3, [125, 2, 1, 0, 38, 771]) := by decide +kernel
theorem f_32_22 : mFetch 32 22 = some (.aload_n 0, 1, []) := by decide +kernel
theorem f_32_23 : mFetch 32 23 = some (.aload_n 1, 1, []) := by decide +kernel
theorem f_32_24 : mFetch 32 24 = some (.getfield 18, 3, [1, 2, 0, 167]) := by decide +kernel
theorem f_32_27 : mFetch 32 27 = some (.putfield 18, 3, [1, 2, 0, 167]) := by decide +kernel
theorem f_32_30 : mFetch 32 30 = some (.return_, 1, []) := by decide +kernel
theorem b_32_0 {d : Nat} {a0 : Nat} {a1 : Nat} {w : MW} (h0 : mTg w a1 = 1) (h1 : mR w a1 0 = some (gR w a1 0)) (h2 : mTg w a0 = 1) (h3 : mR w a0 0 = some (gR w a0 0)) : mX (d + 1) 32 0 [.ref a0, .ref a1] [] w = mThen (mK d 125 [.ref (gR w a1 0), .ref (gR w a0 0)] w) (fun v w9 => mX (d + 1) 32 11 [.ref a0, .ref a1] (v.toList ++ []) w9) := by
  refine Eq.trans (X_st f_32_0 rfl rfl) ?_
  refine Eq.trans (X_getR f_32_1 h0 rfl h1) ?_
  refine Eq.trans (X_st f_32_4 rfl rfl) ?_
  refine Eq.trans (X_getR f_32_5 h2 rfl h3) ?_
  refine Eq.trans (X_call f_32_8 (by decide) rfl rfl rfl rfl rfl rfl (Nat.le_of_ble_eq_true rfl) (Nat.le_of_ble_eq_true rfl) rfl (Nat.le_of_ble_eq_true rfl)) ?_
  exact mThen_eq fun v w9 => mX_mask rfl
theorem e_32 {d : Nat} {a0 : Nat} {a1 : Nat} {w : MW} : mK d 32 [.ref a0, .ref a1] w = mX d 32 0 [.ref a0, .ref a1] [] w := rfl
theorem b_32_11 {d : Nat} {a0 : Nat} {a1 : Nat} {w : MW} (h0 : mTg w a1 = 1) (h1 : mR w a1 1 = some (gR w a1 1)) (h2 : mTg w a0 = 1) (h3 : mR w a0 1 = some (gR w a0 1)) : mX (d + 1) 32 11 [.ref a0, .ref a1] [] w = mThen (mK d 125 [.ref (gR w a1 1), .ref (gR w a0 1)] w) (fun v w9 => mX (d + 1) 32 22 [.ref a0, .ref a1] (v.toList ++ []) w9) := by
  refine Eq.trans (X_st f_32_11 rfl rfl) ?_
  refine Eq.trans (X_getR f_32_12 h0 rfl h1) ?_
  refine Eq.trans (X_st f_32_15 rfl rfl) ?_
  refine Eq.trans (X_getR f_32_16 h2 rfl h3) ?_
  refine Eq.trans (X_call f_32_19 (by decide) rfl rfl rfl rfl rfl rfl (Nat.le_of_ble_eq_true rfl) (Nat.le_of_ble_eq_true rfl) rfl (Nat.le_of_ble_eq_true rfl)) ?_
  exact mThen_eq fun v w9 => mX_mask rfl
theorem b_32_22 {d : Nat} {a0 : Nat} {a1 : Nat} {w : MW} (h0 : mTg w a1 = 1) (h1 : mTg w a0 = 1) (h2 : mE ≤ a0) : mX d 32 22 [.ref a0, .ref a1] [] w = some (.inl none, wI w a0 2 (mI w a1 2)) := by
  refine Eq.trans (X_st f_32_22 rfl rfl) ?_
  refine Eq.trans (X_st f_32_23 rfl rfl) ?_
  refine Eq.trans (X_getI f_32_24 h0 rfl) ?_
  refine Eq.trans (X_putI f_32_27 h1 h2 rfl rfl) ?_
  exact X_ret f_32_30 rfl rfl
/-! BeeTurnpike$Grammar <init> (LBeeTurnpike$Tokens;LBeeTurnpike$Code;)V -/
theorem f_33_0 : mFetch 33 0 = some (.aload_n 0, 1, []) := by decide +kernel
theorem f_33_1 : mFetch 33 1 = some (.invokespecial 3, 3, [1002, 272]) := by decide +kernel
theorem f_33_4 : mFetch 33 4 = some (.aload_n 0, 1, []) := by decide +kernel
theorem f_33_5 : mFetch 33 5 = some (.aload_n 1, 1, []) := by decide +kernel
theorem f_33_6 : mFetch 33 6 = some (.putfield 9, 3, [2, 0, 0, 273]) := by decide +kernel
theorem f_33_9 : mFetch 33 9 = some (.aload_n 0, 1, []) := by decide +kernel
theorem f_33_10 : mFetch 33 10 = some (.aload_n 2, 1, []) := by decide +kernel
theorem f_33_11 : mFetch 33 11 = some (.putfield 15, 3, [2, 1, 0, 274]) := by decide +kernel
theorem f_33_14 : mFetch 33 14 = some (.return_, 1, []) := by decide +kernel
theorem b_33_0 {d : Nat} {a0 : Nat} {a1 : Nat} {a2 : Nat} {w : MW} (h0 : mE ≤ a0) (h1 : mTg w a0 = 2) (h2 : mTg (wR w a0 0 (some a1)) a0 = 2) : mX d 33 0 [.ref a0, .ref a1, .ref a2] [] w = some (.inl none, wR (wR w a0 0 (some a1)) a0 1 (some a2)) := by
  refine Eq.trans (X_st f_33_0 rfl rfl) ?_
  refine Eq.trans (X_st f_33_1 rfl (if_pos ⟨h0, Nat.le_of_ble_eq_true rfl⟩)) ?_
  refine Eq.trans (X_st f_33_4 rfl rfl) ?_
  refine Eq.trans (X_st f_33_5 rfl rfl) ?_
  refine Eq.trans (X_putR f_33_6 h1 h0 rfl) ?_
  refine Eq.trans (X_st f_33_9 rfl rfl) ?_
  refine Eq.trans (X_st f_33_10 rfl rfl) ?_
  refine Eq.trans (X_putR f_33_11 h2 h0 rfl) ?_
  exact X_ret f_33_14 rfl rfl
theorem e_33 {d : Nat} {a0 : Nat} {a1 : Nat} {a2 : Nat} {w : MW} : mK d 33 [.ref a0, .ref a1, .ref a2] w = mX d 33 0 [.ref a0, .ref a1, .ref a2] [] w := rfl
/-! BeeTurnpike$Grammar read ()I -/
theorem f_34_0 : mFetch 34 0 = some (.aload_n 0, 1, []) := by decide +kernel
theorem f_34_1 : mFetch 34 1 = some (.iconst 0, 1, []) := by decide +kernel
theorem f_34_2 : mFetch 34 2 = some (.putfield 19, 3, [2, 2, 0, 275]) := by decide +kernel
theorem f_34_5 : mFetch 34 5 = some (.aload_n 0, 1, []) := by decide +kernel
theorem f_34_6 : mFetch 34 6 = some (.aload_n 0, 1, []) := by decide +kernel
theorem f_34_7 : mFetch 34 7 = some (.getfield 9, 3, [2, 0, 0, 273]) := by decide +kernel
theorem f_34_10 : mFetch 34 10 = some (.getfield 23, 3, [7, 1, 1, 39]) := by decide +kernel
theorem f_34_13 : mFetch 34 13 = some (.aload_n 0, 1, []) := by decide +kernel
theorem f_34_14 : mFetch 34 14 = some (.getfield 19, 3, [2, 2, 0, 275]) := by decide +kernel
theorem f_34_17 : mFetch 34 17 = some (.invokestatic 29, 3, [123, 2, 1, 0, 40, 559]) := by decide +kernel
theorem f_34_20 : mFetch 34 20 = some (.putfield 33, 3, [2, 3, 0, 276]) := by decide +kernel
theorem f_34_23 : mFetch 34 23 = some (.aload_n 0, 1, []) := by decide +kernel
theorem f_34_24 : mFetch 34 24 = some (.getfield 15, 3, [2, 1, 0, 274]) := by decide +kernel
theorem f_34_27 : mFetch 34 27 = some (.iconst 0, 1, []) := by decide +kernel
theorem f_34_28 : mFetch 34 28 = some (.putfield 36, 3, [1, 2, 1, 41]) := by decide +kernel
theorem f_34_31 : mFetch 34 31 = some (.iconst 0, 1, []) := by decide +kernel
theorem f_34_32 : mFetch 34 32 = some (.istore_n 1, 1, []) := by decide +kernel
theorem f_34_33 : mFetch 34 33 = some (.iload_n 1, 1, []) := by decide +kernel
theorem f_34_34 : mFetch 34 34 = some (.sipush 400, 3, []) := by decide +kernel
theorem f_34_37 : mFetch 34 37 = some (.if_icmp .gt 41, 3, [78]) := by decide +kernel
theorem f_34_40 : mFetch 34 40 = some (.aload_n 0, 1, []) := by decide +kernel
theorem f_34_41 : mFetch 34 41 = some (.getfield 33, 3, [2, 3, 0, 276]) := by decide +kernel
theorem f_34_44 : mFetch 34 44 = some (.sipush 260, 3, []) := by decide +kernel
theorem f_34_47 : mFetch 34 47 = some (.if_icmp .eq 31, 3, [78]) := by decide +kernel
theorem f_34_50 : mFetch 34 50 = some (.aload_n 0, 1, []) := by decide +kernel
theorem f_34_51 : mFetch 34 51 = some (.invokevirtual 41, 3, [36, 1, 2, 2, 1175, 1177, 39]) := by decide +kernel
theorem f_34_54 : mFetch 34 54 = some (.ifCond .eq 13, 3, [67]) := by decide +kernel
theorem f_34_57 : mFetch 34 57 = some (.aload_n 0, 1, []) := by decide +kernel
theorem f_34_58 : mFetch 34 58 = some (.bipush 59, 2, []) := by decide +kernel
theorem f_34_60 : mFetch 34 60 = some (.iconst 0, 1, []) := by decide +kernel
theorem f_34_61 : mFetch 34 61 = some (.invokevirtual 45, 3, [35, 3, 2, 2, 1179, 1181, 40]) := by decide +kernel
theorem f_34_64 : mFetch 34 64 = some (.ifCond .ne 8, 3, [72]) := by decide +kernel
theorem f_34_67 : mFetch 34 67 = some (.aload_n 0, 1, []) := by decide +kernel
theorem f_34_68 : mFetch 34 68 = some (.getfield 19, 3, [2, 2, 0, 275]) := by decide +kernel
theorem f_34_71 : mFetch 34 71 = some (.ireturn, 1, [0]) := by decide +kernel
theorem f_34_72 : mFetch 34 72 = some (.iinc 1 1, 3, []) := by decide +kernel
theorem f_34_75 : mFetch 34 75 = some (.goto (-42), 3, [33]) := by decide +kernel
theorem f_34_78 : mFetch 34 78 = some (.aload_n 0, 1, []) := by decide +kernel
theorem f_34_79 : mFetch 34 79 = some (.getfield 33, 3, [2, 3, 0, 276]) := by decide +kernel
theorem f_34_82 : mFetch 34 82 = some (.sipush 260, 3, []) := by decide +kernel
theorem f_34_85 : mFetch 34 85 = some (.if_icmp .ne 7, 3, [92]) := by decide +kernel
theorem f_34_88 : mFetch 34 88 = some (.iconst (-1), 1, []) := by decide +kernel
theorem f_34_89 : mFetch 34 89 = some (.goto 7, 3, [96]) := by decide +kernel
theorem f_34_92 : mFetch 34 92 = some (.aload_n 0, 1, []) := by decide +kernel
theorem f_34_93 : mFetch 34 93 = some (.getfield 19, 3, [2, 2, 0, 275]) := by decide +kernel
theorem f_34_96 : mFetch 34 96 = some (.ireturn, 1, [0]) := by decide +kernel
theorem b_34_0 {d : Nat} {a0 : Nat} {w : MW} (h0 : mTg w a0 = 2) (h1 : mE ≤ a0) (h2 : mTg (wI w a0 2 (nI 0)) a0 = 2) (h3 : mR (wI w a0 2 (nI 0)) a0 0 = some (gR (wI w a0 2 (nI 0)) a0 0)) (h4 : mTg (wI w a0 2 (nI 0)) (gR (wI w a0 2 (nI 0)) a0 0) = 7) (h5 : mR (wI w a0 2 (nI 0)) (gR (wI w a0 2 (nI 0)) a0 0) 1 = some (gR (wI w a0 2 (nI 0)) (gR (wI w a0 2 (nI 0)) a0 0) 1)) : mX (d + 1) 34 0 [.ref a0, mJ] [] w = mThen (mK d 123 [.ref (gR (wI w a0 2 (nI 0)) (gR (wI w a0 2 (nI 0)) a0 0) 1), .int (mI (wI w a0 2 (nI 0)) a0 2)] (wI w a0 2 (nI 0))) (fun v w9 => mX (d + 1) 34 20 [.ref a0, mJ] (v.toList ++ [.ref a0]) w9) := by
  refine Eq.trans (X_st f_34_0 rfl rfl) ?_
  refine Eq.trans (X_iconst f_34_1 kc_i_0) ?_
  refine Eq.trans (X_putI f_34_2 h0 h1 rfl rfl) ?_
  refine Eq.trans (X_st f_34_5 rfl rfl) ?_
  refine Eq.trans (X_st f_34_6 rfl rfl) ?_
  refine Eq.trans (X_getR f_34_7 h2 rfl h3) ?_
  refine Eq.trans (X_getR f_34_10 h4 rfl h5) ?_
  refine Eq.trans (X_st f_34_13 rfl rfl) ?_
  refine Eq.trans (X_getI f_34_14 h2 rfl) ?_
  refine Eq.trans (X_call f_34_17 (by decide) rfl rfl rfl rfl rfl rfl (Nat.le_of_ble_eq_true rfl) (Nat.le_of_ble_eq_true rfl) rfl (Nat.le_of_ble_eq_true rfl)) ?_
  exact mThen_eq fun v w9 => mX_mask rfl
theorem e_34 {d : Nat} {a0 : Nat} {w : MW} : mK d 34 [.ref a0] w = mX d 34 0 [.ref a0, mJ] [] w := rfl
theorem b_34_20 {d : Nat} {a0 : Nat} {y0 : Int32} {b1 : Nat} {w : MW} (h0 : mTg w b1 = 2) (h1 : mE ≤ b1) (h2 : mTg (wI w b1 3 y0) a0 = 2) (h3 : mR (wI w b1 3 y0) a0 1 = some (gR (wI w b1 3 y0) a0 1)) (h4 : mTg (wI w b1 3 y0) (gR (wI w b1 3 y0) a0 1) = 1) (h5 : mE ≤ (gR (wI w b1 3 y0) a0 1)) : mX d 34 20 [.ref a0, mJ] [.int y0, .ref b1] w = mX d 34 33 [.ref a0, .int (nI 0)] [] (wI (wI w b1 3 y0) (gR (wI w b1 3 y0) a0 1) 2 (nI 0)) := by
  refine Eq.trans (X_putI f_34_20 h0 h1 rfl rfl) ?_
  refine Eq.trans (X_st f_34_23 rfl rfl) ?_
  refine Eq.trans (X_getR f_34_24 h2 rfl h3) ?_
  refine Eq.trans (X_iconst f_34_27 kc_i_0) ?_
  refine Eq.trans (X_putI f_34_28 h4 h5 rfl rfl) ?_
  refine Eq.trans (X_iconst f_34_31 kc_i_0) ?_
  refine Eq.trans (X_istore_n (L' := [.ref a0, .int (nI 0)]) f_34_32 (Nat.le_of_ble_eq_true rfl) rfl) ?_
  exact mX_mask rfl
theorem b_34_33 {d : Nat} {a0 : Nat} {x1 : Int32} {w : MW} : mX d 34 33 [.ref a0, .int x1] [] w = (if (nI 400) < x1 then mX d 34 78 [.ref a0, mJ] [] w else mX d 34 40 [.ref a0, .int x1] [] w) := by
  refine Eq.trans (X_st f_34_33 rfl rfl) ?_
  refine Eq.trans (X_sipush f_34_34 kc_s_400) ?_
  refine Eq.trans (X_br f_34_37 rfl rfl) ?_
  exact mIte_eq (mX_mask rfl) (mX_mask rfl)
theorem b_34_40 {d : Nat} {a0 : Nat} {x1 : Int32} {w : MW} (h0 : mTg w a0 = 2) : mX d 34 40 [.ref a0, .int x1] [] w = (if (mI w a0 3) = (nI 260) then mX d 34 78 [.ref a0, mJ] [] w else mX d 34 50 [.ref a0, .int x1] [] w) := by
  refine Eq.trans (X_st f_34_40 rfl rfl) ?_
  refine Eq.trans (X_getI f_34_41 h0 rfl) ?_
  refine Eq.trans (X_sipush f_34_44 kc_s_260) ?_
  refine Eq.trans (X_br f_34_47 rfl rfl) ?_
  exact mIte_eq (mX_mask rfl) (mX_mask rfl)
theorem b_34_50 {d : Nat} {a0 : Nat} {x1 : Int32} {w : MW} (h0 : mTg w a0 = 2) : mX (d + 1) 34 50 [.ref a0, .int x1] [] w = mThen (mK d 36 [.ref a0] w) (fun v w9 => mX (d + 1) 34 54 [.ref a0, .int x1] (v.toList ++ []) w9) := by
  refine Eq.trans (X_st f_34_50 rfl rfl) ?_
  refine Eq.trans (X_call f_34_51 (by decide) rfl rfl rfl rfl rfl rfl (Nat.le_of_ble_eq_true rfl) (Nat.le_of_ble_eq_true rfl) (decide_eq_true h0) (Nat.le_of_ble_eq_true rfl)) ?_
  exact mThen_eq fun v w9 => mX_mask rfl
theorem b_34_54 {d : Nat} {a0 : Nat} {x1 : Int32} {y0 : Int32} {w : MW} : mX d 34 54 [.ref a0, .int x1] [.int y0] w = (if y0 = nI 0 then mX d 34 67 [.ref a0, mJ] [] w else mX d 34 57 [.ref a0, .int x1] [] w) := by
  refine Eq.trans (X_br f_34_54 rfl rfl) ?_
  exact mIte_eq (mX_mask rfl) (mX_mask rfl)
theorem b_34_57 {d : Nat} {a0 : Nat} {x1 : Int32} {w : MW} (h0 : mTg w a0 = 2) : mX (d + 1) 34 57 [.ref a0, .int x1] [] w = mThen (mK d 35 [.ref a0, .int (nI 59), .int (nI 0)] w) (fun v w9 => mX (d + 1) 34 64 [.ref a0, .int x1] (v.toList ++ []) w9) := by
  refine Eq.trans (X_st f_34_57 rfl rfl) ?_
  refine Eq.trans (X_bipush f_34_58 kc_b_59) ?_
  refine Eq.trans (X_iconst f_34_60 kc_i_0) ?_
  refine Eq.trans (X_call f_34_61 (by decide) rfl rfl rfl rfl rfl rfl (Nat.le_of_ble_eq_true rfl) (Nat.le_of_ble_eq_true rfl) (decide_eq_true h0) (Nat.le_of_ble_eq_true rfl)) ?_
  exact mThen_eq fun v w9 => mX_mask rfl
theorem b_34_64 {d : Nat} {a0 : Nat} {x1 : Int32} {y0 : Int32} {w : MW} : mX d 34 64 [.ref a0, .int x1] [.int y0] w = (if ¬ y0 = nI 0 then mX d 34 72 [.ref a0, .int x1] [] w else mX d 34 67 [.ref a0, mJ] [] w) := by
  refine Eq.trans (X_br f_34_64 rfl rfl) ?_
  exact mIte_eq (mX_mask rfl) (mX_mask rfl)
theorem b_34_67 {d : Nat} {a0 : Nat} {w : MW} (h0 : mTg w a0 = 2) : mX d 34 67 [.ref a0, mJ] [] w = some (.inl (some (.int (mI w a0 2))), w) := by
  refine Eq.trans (X_st f_34_67 rfl rfl) ?_
  refine Eq.trans (X_getI f_34_68 h0 rfl) ?_
  exact X_ireturn f_34_71 rfl
theorem b_34_72 {d : Nat} {a0 : Nat} {x1 : Int32} {w : MW} : mX d 34 72 [.ref a0, .int x1] [] w = mX d 34 33 [.ref a0, .int (x1 + (nI 1))] [] w := by
  refine Eq.trans (X_iinc f_34_72 kc_i_1 rfl rfl) ?_
  refine Eq.trans (X_st f_34_75 rfl rfl) ?_
  exact mX_mask rfl
theorem b_34_78 {d : Nat} {a0 : Nat} {w : MW} (h0 : mTg w a0 = 2) : mX d 34 78 [.ref a0, mJ] [] w = (if ¬ (mI w a0 3) = (nI 260) then mX d 34 92 [.ref a0, mJ] [] w else mX d 34 88 [mJ, mJ] [] w) := by
  refine Eq.trans (X_st f_34_78 rfl rfl) ?_
  refine Eq.trans (X_getI f_34_79 h0 rfl) ?_
  refine Eq.trans (X_sipush f_34_82 kc_s_260) ?_
  refine Eq.trans (X_br f_34_85 rfl rfl) ?_
  exact mIte_eq (mX_mask rfl) (mX_mask rfl)
theorem b_34_88 {d : Nat} {w : MW} : mX d 34 88 [mJ, mJ] [] w = mX d 34 96 [mJ, mJ] [.int (-1 : Int32)] w := by
  refine Eq.trans (X_iconst f_34_88 kc_i_m1) ?_
  refine Eq.trans (X_st f_34_89 rfl rfl) ?_
  exact mX_mask rfl
theorem b_34_92 {d : Nat} {a0 : Nat} {w : MW} (h0 : mTg w a0 = 2) : mX d 34 92 [.ref a0, mJ] [] w = mX d 34 96 [mJ, mJ] [.int (mI w a0 2)] w := by
  refine Eq.trans (X_st f_34_92 rfl rfl) ?_
  refine Eq.trans (X_getI f_34_93 h0 rfl) ?_
  exact mX_mask rfl
theorem b_34_96 {d : Nat} {y0 : Int32} {w : MW} : mX d 34 96 [mJ, mJ] [.int y0] w = some (.inl (some (.int y0)), w) := by
  exact X_ireturn f_34_96 rfl
/-! BeeTurnpike$Grammar take (II)Z -/
theorem f_35_0 : mFetch 35 0 = some (.aload_n 0, 1, []) := by decide +kernel
theorem f_35_1 : mFetch 35 1 = some (.getfield 33, 3, [2, 3, 0, 276]) := by decide +kernel
theorem f_35_4 : mFetch 35 4 = some (.iload_n 1, 1, []) := by decide +kernel
theorem f_35_5 : mFetch 35 5 = some (.if_icmp .eq 5, 3, [10]) := by decide +kernel
theorem f_35_8 : mFetch 35 8 = some (.iconst 0, 1, []) := by decide +kernel
theorem f_35_9 : mFetch 35 9 = some (.ireturn, 1, [2]) := by decide +kernel
theorem f_35_10 : mFetch 35 10 = some (.aload_n 0, 1, []) := by decide +kernel
theorem f_35_11 : mFetch 35 11 = some (.getfield 9, 3, [2, 0, 0, 273]) := by decide +kernel
theorem f_35_14 : mFetch 35 14 = some (.getfield 49, 3, [7, 4, 1, 42]) := by decide +kernel
theorem f_35_17 : mFetch 35 17 = some (.aload_n 0, 1, []) := by decide +kernel
theorem f_35_18 : mFetch 35 18 = some (.getfield 19, 3, [2, 2, 0, 275]) := by decide +kernel
theorem f_35_21 : mFetch 35 21 = some (.iload_n 2, 1, []) := by decide +kernel
theorem f_35_22 : mFetch 35 22 = some (.invokestatic 52, 3, [124, 3, 1, 0, 43, 689]) := by decide +kernel
theorem f_35_25 : mFetch 35 25 = some (.aload_n 0, 1, []) := by decide +kernel
theorem f_35_26 : mFetch 35 26 = some (.dup, 1, []) := by decide +kernel
theorem f_35_27 : mFetch 35 27 = some (.getfield 19, 3, [2, 2, 0, 275]) := by decide +kernel
theorem f_35_30 : mFetch 35 30 = some (.iconst 1, 1, []) := by decide +kernel
theorem f_35_31 : mFetch 35 31 = some (.iadd, 1, []) := by decide +kernel
theorem f_35_32 : mFetch 35 32 = some (.putfield 19, 3, [2, 2, 0, 275]) := by decide +kernel
theorem f_35_35 : mFetch 35 35 = some (.aload_n 0, 1, []) := by decide +kernel
theorem f_35_36 : mFetch 35 36 = some (.aload_n 0, 1, []) := by decide +kernel
theorem f_35_37 : mFetch 35 37 = some (.getfield 9, 3, [2, 0, 0, 273]) := by decide +kernel
theorem f_35_40 : mFetch 35 40 = some (.getfield 23, 3, [7, 1, 1, 39]) := by decide +kernel
theorem f_35_43 : mFetch 35 43 = some (.aload_n 0, 1, []) := by decide +kernel
theorem f_35_44 : mFetch 35 44 = some (.getfield 19, 3, [2, 2, 0, 275]) := by decide +kernel
theorem f_35_47 : mFetch 35 47 = some (.invokestatic 29, 3, [123, 2, 1, 0, 40, 559]) := by decide +kernel
theorem f_35_50 : mFetch 35 50 = some (.putfield 33, 3, [2, 3, 0, 276]) := by decide +kernel
theorem f_35_53 : mFetch 35 53 = some (.iconst 1, 1, []) := by decide +kernel
theorem f_35_54 : mFetch 35 54 = some (.ireturn, 1, [2]) := by decide +kernel
theorem b_35_0 {d : Nat} {a0 : Nat} {x1 : Int32} {x2 : Int32} {w : MW} (h0 : mTg w a0 = 2) : mX d 35 0 [.ref a0, .int x1, .int x2] [] w = (if (mI w a0 3) = x1 then mX d 35 10 [.ref a0, mJ, .int x2] [] w else mX d 35 8 [mJ, mJ, mJ] [] w) := by
  refine Eq.trans (X_st f_35_0 rfl rfl) ?_
  refine Eq.trans (X_getI f_35_1 h0 rfl) ?_
  refine Eq.trans (X_st f_35_4 rfl rfl) ?_
  refine Eq.trans (X_br f_35_5 rfl rfl) ?_
  exact mIte_eq (mX_mask rfl) (mX_mask rfl)
theorem e_35 {d : Nat} {a0 : Nat} {x1 : Int32} {x2 : Int32} {w : MW} : mK d 35 [.ref a0, .int x1, .int x2] w = mX d 35 0 [.ref a0, .int x1, .int x2] [] w := rfl
theorem b_35_8 {d : Nat} {w : MW} : mX d 35 8 [mJ, mJ, mJ] [] w = some (.inl (some (.int (nI 0))), w) := by
  refine Eq.trans (X_iconst f_35_8 kc_i_0) ?_
  exact X_ireturn f_35_9 rfl
theorem b_35_10 {d : Nat} {a0 : Nat} {x2 : Int32} {w : MW} (h0 : mTg w a0 = 2) (h1 : mR w a0 0 = some (gR w a0 0)) (h2 : mTg w (gR w a0 0) = 7) (h3 : mR w (gR w a0 0) 4 = some (gR w (gR w a0 0) 4)) : mX (d + 1) 35 10 [.ref a0, mJ, .int x2] [] w = mThen (mK d 124 [.ref (gR w (gR w a0 0) 4), .int (mI w a0 2), .int x2] w) (fun v w9 => mX (d + 1) 35 25 [.ref a0, mJ, mJ] (v.toList ++ []) w9) := by
  refine Eq.trans (X_st f_35_10 rfl rfl) ?_
  refine Eq.trans (X_getR f_35_11 h0 rfl h1) ?_
  refine Eq.trans (X_getR f_35_14 h2 rfl h3) ?_
  refine Eq.trans (X_st f_35_17 rfl rfl) ?_
  refine Eq.trans (X_getI f_35_18 h0 rfl) ?_
  refine Eq.trans (X_st f_35_21 rfl rfl) ?_
  refine Eq.trans (X_call f_35_22 (by decide) rfl rfl rfl rfl rfl rfl (Nat.le_of_ble_eq_true rfl) (Nat.le_of_ble_eq_true rfl) rfl (Nat.le_of_ble_eq_true rfl)) ?_
  exact mThen_eq fun v w9 => mX_mask rfl
theorem b_35_25 {d : Nat} {a0 : Nat} {w : MW} (h0 : mTg w a0 = 2) (h1 : mE ≤ a0) (h2 : mTg (wI w a0 2 ((mI w a0 2) + (nI 1))) a0 = 2) (h3 : mR (wI w a0 2 ((mI w a0 2) + (nI 1))) a0 0 = some (gR (wI w a0 2 ((mI w a0 2) + (nI 1))) a0 0)) (h4 : mTg (wI w a0 2 ((mI w a0 2) + (nI 1))) (gR (wI w a0 2 ((mI w a0 2) + (nI 1))) a0 0) = 7) (h5 : mR (wI w a0 2 ((mI w a0 2) + (nI 1))) (gR (wI w a0 2 ((mI w a0 2) + (nI 1))) a0 0) 1 = some (gR (wI w a0 2 ((mI w a0 2) + (nI 1))) (gR (wI w a0 2 ((mI w a0 2) + (nI 1))) a0 0) 1)) : mX (d + 1) 35 25 [.ref a0, mJ, mJ] [] w = mThen (mK d 123 [.ref (gR (wI w a0 2 ((mI w a0 2) + (nI 1))) (gR (wI w a0 2 ((mI w a0 2) + (nI 1))) a0 0) 1), .int (mI (wI w a0 2 ((mI w a0 2) + (nI 1))) a0 2)] (wI w a0 2 ((mI w a0 2) + (nI 1)))) (fun v w9 => mX (d + 1) 35 50 [mJ, mJ, mJ] (v.toList ++ [.ref a0]) w9) := by
  refine Eq.trans (X_st f_35_25 rfl rfl) ?_
  refine Eq.trans (X_dup f_35_26 rfl) ?_
  refine Eq.trans (X_getI f_35_27 h0 rfl) ?_
  refine Eq.trans (X_iconst f_35_30 kc_i_1) ?_
  refine Eq.trans (X_st f_35_31 rfl rfl) ?_
  refine Eq.trans (X_putI f_35_32 h0 h1 rfl rfl) ?_
  refine Eq.trans (X_st f_35_35 rfl rfl) ?_
  refine Eq.trans (X_st f_35_36 rfl rfl) ?_
  refine Eq.trans (X_getR f_35_37 h2 rfl h3) ?_
  refine Eq.trans (X_getR f_35_40 h4 rfl h5) ?_
  refine Eq.trans (X_st f_35_43 rfl rfl) ?_
  refine Eq.trans (X_getI f_35_44 h2 rfl) ?_
  refine Eq.trans (X_call f_35_47 (by decide) rfl rfl rfl rfl rfl rfl (Nat.le_of_ble_eq_true rfl) (Nat.le_of_ble_eq_true rfl) rfl (Nat.le_of_ble_eq_true rfl)) ?_
  exact mThen_eq fun v w9 => mX_mask rfl
theorem b_35_50 {d : Nat} {y0 : Int32} {b1 : Nat} {w : MW} (h0 : mTg w b1 = 2) (h1 : mE ≤ b1) : mX d 35 50 [mJ, mJ, mJ] [.int y0, .ref b1] w = some (.inl (some (.int (nI 1))), wI w b1 3 y0) := by
  refine Eq.trans (X_putI f_35_50 h0 h1 rfl rfl) ?_
  refine Eq.trans (X_iconst f_35_53 kc_i_1) ?_
  exact X_ireturn f_35_54 rfl
/-! BeeTurnpike$Grammar readLine ()Z -/
theorem f_36_0 : mFetch 36 0 = some (.aload_n 0, 1, []) := by decide +kernel
theorem f_36_1 : mFetch 36 1 = some (.getfield 33, 3, [2, 3, 0, 276]) := by decide +kernel
theorem f_36_4 : mFetch 36 4 = some (.istore_n 1, 1, []) := by decide +kernel
theorem f_36_5 : mFetch 36 5 = some (.iload_n 1, 1, []) := by decide +kernel
theorem f_36_6 : mFetch 36 6 = some (.tableswitch 488 0 17 #[86, 488, 133, 488, 488, 488, 222, 488, 268, 488, 488, 324, 488, 488, 488, 414, 414, 414], 86, [494, 92, 494, 139, 494, 494, 494, 228, 494, 274, 494, 494, 330, 494, 494, 494, 420, 420, 420]) := by decide +kernel
theorem f_36_92 : mFetch 36 92 = some (.aload_n 0, 1, []) := by decide +kernel
theorem f_36_93 : mFetch 36 93 = some (.iconst 0, 1, []) := by decide +kernel
theorem f_36_94 : mFetch 36 94 = some (.iconst 0, 1, []) := by decide +kernel
theorem f_36_95 : mFetch 36 95 = some (.invokevirtual 45, 3, [35, 3, 2, 2, 1179, 1181, 40]) := by decide +kernel
theorem f_36_98 : mFetch 36 98 = some (.ifCond .eq 39, 3, [137]) := by decide +kernel
theorem f_36_101 : mFetch 36 101 = some (.aload_n 0, 1, []) := by decide +kernel
theorem f_36_102 : mFetch 36 102 = some (.sipush 258, 3, []) := by decide +kernel
theorem f_36_105 : mFetch 36 105 = some (.iconst 1, 1, []) := by decide +kernel
theorem f_36_106 : mFetch 36 106 = some (.invokevirtual 45, 3, [35, 3, 2, 2, 1179, 1181, 40]) := by decide +kernel
theorem f_36_109 : mFetch 36 109 = some (.ifCond .eq 28, 3, [137]) := by decide +kernel
theorem f_36_112 : mFetch 36 112 = some (.aload_n 0, 1, []) := by decide +kernel
theorem f_36_113 : mFetch 36 113 = some (.iconst 1, 1, []) := by decide +kernel
theorem f_36_114 : mFetch 36 114 = some (.iconst 0, 1, []) := by decide +kernel
theorem f_36_115 : mFetch 36 115 = some (.invokevirtual 45, 3, [35, 3, 2, 2, 1179, 1181, 40]) := by decide +kernel
theorem f_36_118 : mFetch 36 118 = some (.ifCond .eq 19, 3, [137]) := by decide +kernel
theorem f_36_121 : mFetch 36 121 = some (.aload_n 0, 1, []) := by decide +kernel
theorem f_36_122 : mFetch 36 122 = some (.sipush 259, 3, []) := by decide +kernel
theorem f_36_125 : mFetch 36 125 = some (.bipush 14, 2, []) := by decide +kernel
theorem f_36_127 : mFetch 36 127 = some (.invokevirtual 45, 3, [35, 3, 2, 2, 1179, 1181, 40]) := by decide +kernel
theorem f_36_130 : mFetch 36 130 = some (.ifCond .eq 7, 3, [137]) := by decide +kernel
theorem f_36_133 : mFetch 36 133 = some (.iconst 1, 1, []) := by decide +kernel
theorem f_36_134 : mFetch 36 134 = some (.goto 4, 3, [138]) := by decide +kernel
theorem f_36_137 : mFetch 36 137 = some (.iconst 0, 1, []) := by decide +kernel
theorem f_36_138 : mFetch 36 138 = some (.ireturn, 1, [2]) := by decide +kernel
theorem f_36_139 : mFetch 36 139 = some (.aload_n 0, 1, []) := by decide +kernel
theorem f_36_140 : mFetch 36 140 = some (.iconst 2, 1, []) := by decide +kernel
theorem f_36_141 : mFetch 36 141 = some (.iconst 0, 1, []) := by decide +kernel
theorem f_36_142 : mFetch 36 142 = some (.invokevirtual 45, 3, [35, 3, 2, 2, 1179, 1181, 40]) := by decide +kernel
theorem f_36_145 : mFetch 36 145 = some (.ifCond .eq 81, 3, [226]) := by decide +kernel
theorem f_36_148 : mFetch 36 148 = some (.aload_n 0, 1, []) := by decide +kernel
theorem f_36_149 : mFetch 36 149 = some (.sipush 258, 3, []) := by decide +kernel
theorem f_36_152 : mFetch 36 152 = some (.iconst 2, 1, []) := by decide +kernel
theorem f_36_153 : mFetch 36 153 = some (.invokevirtual 45, 3, [35, 3, 2, 2, 1179, 1181, 40]) := by decide +kernel
theorem f_36_156 : mFetch 36 156 = some (.ifCond .eq 70, 3, [226]) := by decide +kernel
theorem f_36_159 : mFetch 36 159 = some (.aload_n 0, 1, []) := by decide +kernel
theorem f_36_160 : mFetch 36 160 = some (.iconst 3, 1, []) := by decide +kernel
theorem f_36_161 : mFetch 36 161 = some (.iconst 0, 1, []) := by decide +kernel
theorem f_36_162 : mFetch 36 162 = some (.invokevirtual 45, 3, [35, 3, 2, 2, 1179, 1181, 40]) := by decide +kernel
theorem f_36_165 : mFetch 36 165 = some (.ifCond .eq 61, 3, [226]) := by decide +kernel
theorem f_36_168 : mFetch 36 168 = some (.aload_n 0, 1, []) := by decide +kernel
theorem f_36_169 : mFetch 36 169 = some (.sipush 258, 3, []) := by decide +kernel
theorem f_36_172 : mFetch 36 172 = some (.bipush 7, 2, []) := by decide +kernel
theorem f_36_174 : mFetch 36 174 = some (.invokevirtual 45, 3, [35, 3, 2, 2, 1179, 1181, 40]) := by decide +kernel
theorem f_36_177 : mFetch 36 177 = some (.ifCond .eq 49, 3, [226]) := by decide +kernel
theorem f_36_180 : mFetch 36 180 = some (.aload_n 0, 1, []) := by decide +kernel
theorem f_36_181 : mFetch 36 181 = some (.iconst 4, 1, []) := by decide +kernel
theorem f_36_182 : mFetch 36 182 = some (.iconst 0, 1, []) := by decide +kernel
theorem f_36_183 : mFetch 36 183 = some (.invokevirtual 45, 3, [35, 3, 2, 2, 1179, 1181, 40]) := by decide +kernel
theorem f_36_186 : mFetch 36 186 = some (.ifCond .eq 40, 3, [226]) := by decide +kernel
theorem f_36_189 : mFetch 36 189 = some (.aload_n 0, 1, []) := by decide +kernel
theorem f_36_190 : mFetch 36 190 = some (.sipush 259, 3, []) := by decide +kernel
theorem f_36_193 : mFetch 36 193 = some (.bipush 15, 2, []) := by decide +kernel
theorem f_36_195 : mFetch 36 195 = some (.invokevirtual 45, 3, [35, 3, 2, 2, 1179, 1181, 40]) := by decide +kernel
theorem f_36_198 : mFetch 36 198 = some (.ifCond .eq 28, 3, [226]) := by decide +kernel
theorem f_36_201 : mFetch 36 201 = some (.aload_n 0, 1, []) := by decide +kernel
theorem f_36_202 : mFetch 36 202 = some (.iconst 5, 1, []) := by decide +kernel
theorem f_36_203 : mFetch 36 203 = some (.iconst 0, 1, []) := by decide +kernel
theorem f_36_204 : mFetch 36 204 = some (.invokevirtual 45, 3, [35, 3, 2, 2, 1179, 1181, 40]) := by decide +kernel
theorem f_36_207 : mFetch 36 207 = some (.ifCond .eq 19, 3, [226]) := by decide +kernel
theorem f_36_210 : mFetch 36 210 = some (.aload_n 0, 1, []) := by decide +kernel
theorem f_36_211 : mFetch 36 211 = some (.sipush 259, 3, []) := by decide +kernel
theorem f_36_214 : mFetch 36 214 = some (.bipush 16, 2, []) := by decide +kernel
theorem f_36_216 : mFetch 36 216 = some (.invokevirtual 45, 3, [35, 3, 2, 2, 1179, 1181, 40]) := by decide +kernel
theorem f_36_219 : mFetch 36 219 = some (.ifCond .eq 7, 3, [226]) := by decide +kernel
theorem f_36_222 : mFetch 36 222 = some (.iconst 1, 1, []) := by decide +kernel
theorem f_36_223 : mFetch 36 223 = some (.goto 4, 3, [227]) := by decide +kernel
theorem f_36_226 : mFetch 36 226 = some (.iconst 0, 1, []) := by decide +kernel
theorem f_36_227 : mFetch 36 227 = some (.ireturn, 1, [2]) := by decide +kernel
theorem f_36_228 : mFetch 36 228 = some (.aload_n 0, 1, []) := by decide +kernel
theorem f_36_229 : mFetch 36 229 = some (.bipush 6, 2, []) := by decide +kernel
theorem f_36_231 : mFetch 36 231 = some (.iconst 0, 1, []) := by decide +kernel
theorem f_36_232 : mFetch 36 232 = some (.invokevirtual 45, 3, [35, 3, 2, 2, 1179, 1181, 40]) := by decide +kernel
theorem f_36_235 : mFetch 36 235 = some (.ifCond .eq 37, 3, [272]) := by decide +kernel
theorem f_36_238 : mFetch 36 238 = some (.aload_n 0, 1, []) := by decide +kernel
theorem f_36_239 : mFetch 36 239 = some (.sipush 258, 3, []) := by decide +kernel
theorem f_36_242 : mFetch 36 242 = some (.iconst 3, 1, []) := by decide +kernel
theorem f_36_243 : mFetch 36 243 = some (.invokevirtual 45, 3, [35, 3, 2, 2, 1179, 1181, 40]) := by decide +kernel
theorem f_36_246 : mFetch 36 246 = some (.ifCond .eq 26, 3, [272]) := by decide +kernel
theorem f_36_249 : mFetch 36 249 = some (.aload_n 0, 1, []) := by decide +kernel
theorem f_36_250 : mFetch 36 250 = some (.bipush 7, 2, []) := by decide +kernel
theorem f_36_252 : mFetch 36 252 = some (.iconst 0, 1, []) := by decide +kernel
theorem f_36_253 : mFetch 36 253 = some (.invokevirtual 45, 3, [35, 3, 2, 2, 1179, 1181, 40]) := by decide +kernel
theorem f_36_256 : mFetch 36 256 = some (.ifCond .eq 16, 3, [272]) := by decide +kernel
theorem f_36_259 : mFetch 36 259 = some (.aload_n 0, 1, []) := by decide +kernel
theorem f_36_260 : mFetch 36 260 = some (.bipush 9, 2, []) := by decide +kernel
theorem f_36_262 : mFetch 36 262 = some (.invokevirtual 56, 3, [37, 2, 2, 2, 1184, 1186, 41]) := by decide +kernel
theorem f_36_265 : mFetch 36 265 = some (.ifCond .eq 7, 3, [272]) := by decide +kernel
theorem f_36_268 : mFetch 36 268 = some (.iconst 1, 1, []) := by decide +kernel
theorem f_36_269 : mFetch 36 269 = some (.goto 4, 3, [273]) := by decide +kernel
theorem f_36_272 : mFetch 36 272 = some (.iconst 0, 1, []) := by decide +kernel
theorem f_36_273 : mFetch 36 273 = some (.ireturn, 1, [2]) := by decide +kernel
theorem f_36_274 : mFetch 36 274 = some (.aload_n 0, 1, []) := by decide +kernel
theorem f_36_275 : mFetch 36 275 = some (.bipush 8, 2, []) := by decide +kernel
theorem f_36_277 : mFetch 36 277 = some (.iconst 0, 1, []) := by decide +kernel
theorem f_36_278 : mFetch 36 278 = some (.invokevirtual 45, 3, [35, 3, 2, 2, 1179, 1181, 40]) := by decide +kernel
theorem f_36_281 : mFetch 36 281 = some (.ifCond .eq 47, 3, [328]) := by decide +kernel
theorem f_36_284 : mFetch 36 284 = some (.aload_n 0, 1, []) := by decide +kernel
theorem f_36_285 : mFetch 36 285 = some (.sipush 258, 3, []) := by decide +kernel
theorem f_36_288 : mFetch 36 288 = some (.iconst 4, 1, []) := by decide +kernel
theorem f_36_289 : mFetch 36 289 = some (.invokevirtual 45, 3, [35, 3, 2, 2, 1179, 1181, 40]) := by decide +kernel
theorem f_36_292 : mFetch 36 292 = some (.ifCond .eq 36, 3, [328]) := by decide +kernel
theorem f_36_295 : mFetch 36 295 = some (.aload_n 0, 1, []) := by decide +kernel
theorem f_36_296 : mFetch 36 296 = some (.bipush 9, 2, []) := by decide +kernel
theorem f_36_298 : mFetch 36 298 = some (.iconst 0, 1, []) := by decide +kernel
theorem f_36_299 : mFetch 36 299 = some (.invokevirtual 45, 3, [35, 3, 2, 2, 1179, 1181, 40]) := by decide +kernel
theorem f_36_302 : mFetch 36 302 = some (.ifCond .eq 26, 3, [328]) := by decide +kernel
theorem f_36_305 : mFetch 36 305 = some (.aload_n 0, 1, []) := by decide +kernel
theorem f_36_306 : mFetch 36 306 = some (.sipush 259, 3, []) := by decide +kernel
theorem f_36_309 : mFetch 36 309 = some (.bipush 17, 2, []) := by decide +kernel
theorem f_36_311 : mFetch 36 311 = some (.invokevirtual 45, 3, [35, 3, 2, 2, 1179, 1181, 40]) := by decide +kernel
theorem f_36_314 : mFetch 36 314 = some (.ifCond .eq 14, 3, [328]) := by decide +kernel
theorem f_36_317 : mFetch 36 317 = some (.aload_n 0, 1, []) := by decide +kernel
theorem f_36_318 : mFetch 36 318 = some (.invokevirtual 60, 3, [38, 1, 2, 2, 1188, 1190, 42]) := by decide +kernel
theorem f_36_321 : mFetch 36 321 = some (.ifCond .eq 7, 3, [328]) := by decide +kernel
theorem f_36_324 : mFetch 36 324 = some (.iconst 1, 1, []) := by decide +kernel
theorem f_36_325 : mFetch 36 325 = some (.goto 4, 3, [329]) := by decide +kernel
theorem f_36_328 : mFetch 36 328 = some (.iconst 0, 1, []) := by decide +kernel
theorem f_36_329 : mFetch 36 329 = some (.ireturn, 1, [2]) := by decide +kernel
theorem f_36_330 : mFetch 36 330 = some (.aload_n 0, 1, []) := by decide +kernel
theorem f_36_331 : mFetch 36 331 = some (.bipush 11, 2, []) := by decide +kernel
theorem f_36_333 : mFetch 36 333 = some (.iconst 0, 1, []) := by decide +kernel
theorem f_36_334 : mFetch 36 334 = some (.invokevirtual 45, 3, [35, 3, 2, 2, 1179, 1181, 40]) := by decide +kernel
theorem f_36_337 : mFetch 36 337 = some (.ifCond .eq 81, 3, [418]) := by decide +kernel
theorem f_36_340 : mFetch 36 340 = some (.aload_n 0, 1, []) := by decide +kernel
theorem f_36_341 : mFetch 36 341 = some (.sipush 258, 3, []) := by decide +kernel
theorem f_36_344 : mFetch 36 344 = some (.iconst 5, 1, []) := by decide +kernel
theorem f_36_345 : mFetch 36 345 = some (.invokevirtual 45, 3, [35, 3, 2, 2, 1179, 1181, 40]) := by decide +kernel
theorem f_36_348 : mFetch 36 348 = some (.ifCond .eq 70, 3, [418]) := by decide +kernel
theorem f_36_351 : mFetch 36 351 = some (.aload_n 0, 1, []) := by decide +kernel
theorem f_36_352 : mFetch 36 352 = some (.bipush 12, 2, []) := by decide +kernel
theorem f_36_354 : mFetch 36 354 = some (.iconst 0, 1, []) := by decide +kernel
theorem f_36_355 : mFetch 36 355 = some (.invokevirtual 45, 3, [35, 3, 2, 2, 1179, 1181, 40]) := by decide +kernel
theorem f_36_358 : mFetch 36 358 = some (.ifCond .eq 60, 3, [418]) := by decide +kernel
theorem f_36_361 : mFetch 36 361 = some (.aload_n 0, 1, []) := by decide +kernel
theorem f_36_362 : mFetch 36 362 = some (.sipush 259, 3, []) := by decide +kernel
theorem f_36_365 : mFetch 36 365 = some (.bipush 19, 2, []) := by decide +kernel
theorem f_36_367 : mFetch 36 367 = some (.invokevirtual 45, 3, [35, 3, 2, 2, 1179, 1181, 40]) := by decide +kernel
theorem f_36_370 : mFetch 36 370 = some (.ifCond .eq 48, 3, [418]) := by decide +kernel
theorem f_36_373 : mFetch 36 373 = some (.aload_n 0, 1, []) := by decide +kernel
theorem f_36_374 : mFetch 36 374 = some (.bipush 13, 2, []) := by decide +kernel
theorem f_36_376 : mFetch 36 376 = some (.iconst 0, 1, []) := by decide +kernel
theorem f_36_377 : mFetch 36 377 = some (.invokevirtual 45, 3, [35, 3, 2, 2, 1179, 1181, 40]) := by decide +kernel
theorem f_36_380 : mFetch 36 380 = some (.ifCond .eq 38, 3, [418]) := by decide +kernel
theorem f_36_383 : mFetch 36 383 = some (.aload_n 0, 1, []) := by decide +kernel
theorem f_36_384 : mFetch 36 384 = some (.sipush 259, 3, []) := by decide +kernel
theorem f_36_387 : mFetch 36 387 = some (.bipush 20, 2, []) := by decide +kernel
theorem f_36_389 : mFetch 36 389 = some (.invokevirtual 45, 3, [35, 3, 2, 2, 1179, 1181, 40]) := by decide +kernel
theorem f_36_392 : mFetch 36 392 = some (.ifCond .eq 26, 3, [418]) := by decide +kernel
theorem f_36_395 : mFetch 36 395 = some (.aload_n 0, 1, []) := by decide +kernel
theorem f_36_396 : mFetch 36 396 = some (.bipush 14, 2, []) := by decide +kernel
theorem f_36_398 : mFetch 36 398 = some (.iconst 0, 1, []) := by decide +kernel
theorem f_36_399 : mFetch 36 399 = some (.invokevirtual 45, 3, [35, 3, 2, 2, 1179, 1181, 40]) := by decide +kernel
theorem f_36_402 : mFetch 36 402 = some (.ifCond .eq 16, 3, [418]) := by decide +kernel
theorem f_36_405 : mFetch 36 405 = some (.aload_n 0, 1, []) := by decide +kernel
theorem f_36_406 : mFetch 36 406 = some (.bipush 10, 2, []) := by decide +kernel
theorem f_36_408 : mFetch 36 408 = some (.invokevirtual 56, 3, [37, 2, 2, 2, 1184, 1186, 41]) := by decide +kernel
theorem f_36_411 : mFetch 36 411 = some (.ifCond .eq 7, 3, [418]) := by decide +kernel
theorem f_36_414 : mFetch 36 414 = some (.iconst 1, 1, []) := by decide +kernel
theorem f_36_415 : mFetch 36 415 = some (.goto 4, 3, [419]) := by decide +kernel
theorem f_36_418 : mFetch 36 418 = some (.iconst 0, 1, []) := by decide +kernel
theorem f_36_419 : mFetch 36 419 = some (.ireturn, 1, [2]) := by decide +kernel
theorem f_36_420 : mFetch 36 420 = some (.aload_n 0, 1, []) := by decide +kernel
theorem f_36_421 : mFetch 36 421 = some (.getfield 9, 3, [2, 0, 0, 273]) := by decide +kernel
theorem f_36_424 : mFetch 36 424 = some (.getfield 63, 3, [7, 5, 1, 44]) := by decide +kernel
theorem f_36_427 : mFetch 36 427 = some (.aload_n 0, 1, []) := by decide +kernel
theorem f_36_428 : mFetch 36 428 = some (.getfield 19, 3, [2, 2, 0, 275]) := by decide +kernel
theorem f_36_431 : mFetch 36 431 = some (.aload_n 0, 1, []) := by decide +kernel
theorem f_36_432 : mFetch 36 432 = some (.getfield 15, 3, [2, 1, 0, 274]) := by decide +kernel
theorem f_36_435 : mFetch 36 435 = some (.getfield 36, 3, [1, 2, 1, 41]) := by decide +kernel
theorem f_36_438 : mFetch 36 438 = some (.invokestatic 52, 3, [124, 3, 1, 0, 43, 689]) := by decide +kernel
theorem f_36_441 : mFetch 36 441 = some (.aload_n 0, 1, []) := by decide +kernel
theorem f_36_442 : mFetch 36 442 = some (.iload_n 1, 1, []) := by decide +kernel
theorem f_36_443 : mFetch 36 443 = some (.bipush 6, 2, []) := by decide +kernel
theorem f_36_445 : mFetch 36 445 = some (.invokevirtual 45, 3, [35, 3, 2, 2, 1179, 1181, 40]) := by decide +kernel
theorem f_36_448 : mFetch 36 448 = some (.ifCond .eq 44, 3, [492]) := by decide +kernel
theorem f_36_451 : mFetch 36 451 = some (.aload_n 0, 1, []) := by decide +kernel
theorem f_36_452 : mFetch 36 452 = some (.sipush 258, 3, []) := by decide +kernel
theorem f_36_455 : mFetch 36 455 = some (.bipush 11, 2, []) := by decide +kernel
theorem f_36_457 : mFetch 36 457 = some (.invokevirtual 45, 3, [35, 3, 2, 2, 1179, 1181, 40]) := by decide +kernel
theorem f_36_460 : mFetch 36 460 = some (.ifCond .eq 32, 3, [492]) := by decide +kernel
theorem f_36_463 : mFetch 36 463 = some (.aload_n 0, 1, []) := by decide +kernel
theorem f_36_464 : mFetch 36 464 = some (.bipush 18, 2, []) := by decide +kernel
theorem f_36_466 : mFetch 36 466 = some (.iconst 0, 1, []) := by decide +kernel
theorem f_36_467 : mFetch 36 467 = some (.invokevirtual 45, 3, [35, 3, 2, 2, 1179, 1181, 40]) := by decide +kernel
theorem f_36_470 : mFetch 36 470 = some (.ifCond .eq 22, 3, [492]) := by decide +kernel
theorem f_36_473 : mFetch 36 473 = some (.aload_n 0, 1, []) := by decide +kernel
theorem f_36_474 : mFetch 36 474 = some (.iconst 0, 1, []) := by decide +kernel
theorem f_36_475 : mFetch 36 475 = some (.invokevirtual 66, 3, [40, 2, 2, 2, 1192, 1194, 43]) := by decide +kernel
theorem f_36_478 : mFetch 36 478 = some (.ifCond .eq 14, 3, [492]) := by decide +kernel
theorem f_36_481 : mFetch 36 481 = some (.aload_n 0, 1, []) := by decide +kernel
theorem f_36_482 : mFetch 36 482 = some (.invokevirtual 69, 3, [39, 1, 2, 2, 1226, 1228, 50]) := by decide +kernel
theorem f_36_485 : mFetch 36 485 = some (.ifCond .eq 7, 3, [492]) := by decide +kernel
theorem f_36_488 : mFetch 36 488 = some (.iconst 1, 1, []) := by decide +kernel
theorem f_36_489 : mFetch 36 489 = some (.goto 4, 3, [493]) := by decide +kernel
theorem f_36_492 : mFetch 36 492 = some (.iconst 0, 1, []) := by decide +kernel
theorem f_36_493 : mFetch 36 493 = some (.ireturn, 1, [2]) := by decide +kernel
theorem f_36_494 : mFetch 36 494 = some (.iconst 0, 1, []) := by decide +kernel
theorem f_36_495 : mFetch 36 495 = some (.ireturn, 1, [2]) := by decide +kernel
theorem lm_36_92 : mLvm 36 92 = 1 := by decide +kernel
theorem lm_36_98 : mLvm 36 98 = 1 := by decide +kernel
theorem lm_36_101 : mLvm 36 101 = 1 := by decide +kernel
theorem lm_36_109 : mLvm 36 109 = 1 := by decide +kernel
theorem lm_36_112 : mLvm 36 112 = 1 := by decide +kernel
theorem lm_36_118 : mLvm 36 118 = 1 := by decide +kernel
theorem lm_36_121 : mLvm 36 121 = 1 := by decide +kernel
theorem lm_36_130 : mLvm 36 130 = 0 := by decide +kernel
theorem lm_36_133 : mLvm 36 133 = 0 := by decide +kernel
theorem lm_36_137 : mLvm 36 137 = 0 := by decide +kernel
theorem lm_36_138 : mLvm 36 138 = 0 := by decide +kernel
theorem lm_36_139 : mLvm 36 139 = 1 := by decide +kernel
theorem lm_36_145 : mLvm 36 145 = 1 := by decide +kernel
theorem lm_36_148 : mLvm 36 148 = 1 := by decide +kernel
theorem lm_36_156 : mLvm 36 156 = 1 := by decide +kernel
theorem lm_36_159 : mLvm 36 159 = 1 := by decide +kernel
theorem lm_36_165 : mLvm 36 165 = 1 := by decide +kernel
theorem lm_36_168 : mLvm 36 168 = 1 := by decide +kernel
theorem lm_36_177 : mLvm 36 177 = 1 := by decide +kernel
theorem lm_36_180 : mLvm 36 180 = 1 := by decide +kernel
theorem lm_36_186 : mLvm 36 186 = 1 := by decide +kernel
theorem lm_36_189 : mLvm 36 189 = 1 := by decide +kernel
theorem lm_36_198 : mLvm 36 198 = 1 := by decide +kernel
theorem lm_36_201 : mLvm 36 201 = 1 := by decide +kernel
theorem lm_36_207 : mLvm 36 207 = 1 := by decide +kernel
theorem lm_36_210 : mLvm 36 210 = 1 := by decide +kernel
theorem lm_36_219 : mLvm 36 219 = 0 := by decide +kernel
theorem lm_36_222 : mLvm 36 222 = 0 := by decide +kernel
theorem lm_36_226 : mLvm 36 226 = 0 := by decide +kernel
theorem lm_36_227 : mLvm 36 227 = 0 := by decide +kernel
theorem lm_36_228 : mLvm 36 228 = 1 := by decide +kernel
theorem lm_36_235 : mLvm 36 235 = 1 := by decide +kernel
theorem lm_36_238 : mLvm 36 238 = 1 := by decide +kernel
theorem lm_36_246 : mLvm 36 246 = 1 := by decide +kernel
theorem lm_36_249 : mLvm 36 249 = 1 := by decide +kernel
theorem lm_36_256 : mLvm 36 256 = 1 := by decide +kernel
theorem lm_36_259 : mLvm 36 259 = 1 := by decide +kernel
theorem lm_36_265 : mLvm 36 265 = 0 := by decide +kernel
theorem lm_36_268 : mLvm 36 268 = 0 := by decide +kernel
theorem lm_36_272 : mLvm 36 272 = 0 := by decide +kernel
theorem lm_36_273 : mLvm 36 273 = 0 := by decide +kernel
theorem lm_36_274 : mLvm 36 274 = 1 := by decide +kernel
theorem lm_36_281 : mLvm 36 281 = 1 := by decide +kernel
theorem lm_36_284 : mLvm 36 284 = 1 := by decide +kernel
theorem lm_36_292 : mLvm 36 292 = 1 := by decide +kernel
theorem lm_36_295 : mLvm 36 295 = 1 := by decide +kernel
theorem lm_36_302 : mLvm 36 302 = 1 := by decide +kernel
theorem lm_36_305 : mLvm 36 305 = 1 := by decide +kernel
theorem lm_36_314 : mLvm 36 314 = 1 := by decide +kernel
theorem lm_36_317 : mLvm 36 317 = 1 := by decide +kernel
theorem lm_36_321 : mLvm 36 321 = 0 := by decide +kernel
theorem lm_36_324 : mLvm 36 324 = 0 := by decide +kernel
theorem lm_36_328 : mLvm 36 328 = 0 := by decide +kernel
theorem lm_36_329 : mLvm 36 329 = 0 := by decide +kernel
theorem lm_36_330 : mLvm 36 330 = 1 := by decide +kernel
theorem lm_36_337 : mLvm 36 337 = 1 := by decide +kernel
theorem lm_36_340 : mLvm 36 340 = 1 := by decide +kernel
theorem lm_36_348 : mLvm 36 348 = 1 := by decide +kernel
theorem lm_36_351 : mLvm 36 351 = 1 := by decide +kernel
theorem lm_36_358 : mLvm 36 358 = 1 := by decide +kernel
theorem lm_36_361 : mLvm 36 361 = 1 := by decide +kernel
theorem lm_36_370 : mLvm 36 370 = 1 := by decide +kernel
theorem lm_36_373 : mLvm 36 373 = 1 := by decide +kernel
theorem lm_36_380 : mLvm 36 380 = 1 := by decide +kernel
theorem lm_36_383 : mLvm 36 383 = 1 := by decide +kernel
theorem lm_36_392 : mLvm 36 392 = 1 := by decide +kernel
theorem lm_36_395 : mLvm 36 395 = 1 := by decide +kernel
theorem lm_36_402 : mLvm 36 402 = 1 := by decide +kernel
theorem lm_36_405 : mLvm 36 405 = 1 := by decide +kernel
theorem lm_36_411 : mLvm 36 411 = 0 := by decide +kernel
theorem lm_36_414 : mLvm 36 414 = 0 := by decide +kernel
theorem lm_36_418 : mLvm 36 418 = 0 := by decide +kernel
theorem lm_36_419 : mLvm 36 419 = 0 := by decide +kernel
theorem lm_36_420 : mLvm 36 420 = 3 := by decide +kernel
theorem lm_36_441 : mLvm 36 441 = 3 := by decide +kernel
theorem lm_36_448 : mLvm 36 448 = 1 := by decide +kernel
theorem lm_36_451 : mLvm 36 451 = 1 := by decide +kernel
theorem lm_36_460 : mLvm 36 460 = 1 := by decide +kernel
theorem lm_36_463 : mLvm 36 463 = 1 := by decide +kernel
theorem lm_36_470 : mLvm 36 470 = 1 := by decide +kernel
theorem lm_36_473 : mLvm 36 473 = 1 := by decide +kernel
theorem lm_36_478 : mLvm 36 478 = 1 := by decide +kernel
theorem lm_36_481 : mLvm 36 481 = 1 := by decide +kernel
theorem lm_36_485 : mLvm 36 485 = 0 := by decide +kernel
theorem lm_36_488 : mLvm 36 488 = 0 := by decide +kernel
theorem lm_36_492 : mLvm 36 492 = 0 := by decide +kernel
theorem lm_36_493 : mLvm 36 493 = 0 := by decide +kernel
theorem lm_36_494 : mLvm 36 494 = 0 := by decide +kernel
theorem s_36_0_0 {d : Nat} {a0 : Nat} {w : MW} (h0 : mTg w a0 = 2) (h1 : (mI w a0 3) = (nI 0)) : mX d 36 0 [.ref a0, mJ] [] w = mX d 36 92 [.ref a0, mJ] [] w := by
  refine Eq.trans (X_st f_36_0 rfl rfl) ?_
  refine Eq.trans (X_getI f_36_1 h0 rfl) ?_
  refine Eq.trans (X_istore_n (L' := [.ref a0, .int (mI w a0 3)]) f_36_4 (Nat.le_of_ble_eq_true rfl) rfl) ?_
  refine Eq.trans (X_st f_36_5 rfl rfl) ?_
  refine Eq.trans (X_sw f_36_6 rfl (congrArg Value.int h1) rfl) ?_
  exact mX_maskK lm_36_92 rfl
theorem s_36_0_1 {d : Nat} {a0 : Nat} {w : MW} (h0 : mTg w a0 = 2) (h1 : (mI w a0 3) = (nI 1)) : mX d 36 0 [.ref a0, mJ] [] w = mX d 36 494 [mJ, mJ] [] w := by
  refine Eq.trans (X_st f_36_0 rfl rfl) ?_
  refine Eq.trans (X_getI f_36_1 h0 rfl) ?_
  refine Eq.trans (X_istore_n (L' := [.ref a0, .int (mI w a0 3)]) f_36_4 (Nat.le_of_ble_eq_true rfl) rfl) ?_
  refine Eq.trans (X_st f_36_5 rfl rfl) ?_
  refine Eq.trans (X_sw f_36_6 rfl (congrArg Value.int h1) rfl) ?_
  exact mX_maskK lm_36_494 rfl
theorem s_36_0_2 {d : Nat} {a0 : Nat} {w : MW} (h0 : mTg w a0 = 2) (h1 : (mI w a0 3) = (nI 2)) : mX d 36 0 [.ref a0, mJ] [] w = mX d 36 139 [.ref a0, mJ] [] w := by
  refine Eq.trans (X_st f_36_0 rfl rfl) ?_
  refine Eq.trans (X_getI f_36_1 h0 rfl) ?_
  refine Eq.trans (X_istore_n (L' := [.ref a0, .int (mI w a0 3)]) f_36_4 (Nat.le_of_ble_eq_true rfl) rfl) ?_
  refine Eq.trans (X_st f_36_5 rfl rfl) ?_
  refine Eq.trans (X_sw f_36_6 rfl (congrArg Value.int h1) rfl) ?_
  exact mX_maskK lm_36_139 rfl
theorem s_36_0_3 {d : Nat} {a0 : Nat} {w : MW} (h0 : mTg w a0 = 2) (h1 : (mI w a0 3) = (nI 3)) : mX d 36 0 [.ref a0, mJ] [] w = mX d 36 494 [mJ, mJ] [] w := by
  refine Eq.trans (X_st f_36_0 rfl rfl) ?_
  refine Eq.trans (X_getI f_36_1 h0 rfl) ?_
  refine Eq.trans (X_istore_n (L' := [.ref a0, .int (mI w a0 3)]) f_36_4 (Nat.le_of_ble_eq_true rfl) rfl) ?_
  refine Eq.trans (X_st f_36_5 rfl rfl) ?_
  refine Eq.trans (X_sw f_36_6 rfl (congrArg Value.int h1) rfl) ?_
  exact mX_maskK lm_36_494 rfl
theorem s_36_0_4 {d : Nat} {a0 : Nat} {w : MW} (h0 : mTg w a0 = 2) (h1 : (mI w a0 3) = (nI 4)) : mX d 36 0 [.ref a0, mJ] [] w = mX d 36 494 [mJ, mJ] [] w := by
  refine Eq.trans (X_st f_36_0 rfl rfl) ?_
  refine Eq.trans (X_getI f_36_1 h0 rfl) ?_
  refine Eq.trans (X_istore_n (L' := [.ref a0, .int (mI w a0 3)]) f_36_4 (Nat.le_of_ble_eq_true rfl) rfl) ?_
  refine Eq.trans (X_st f_36_5 rfl rfl) ?_
  refine Eq.trans (X_sw f_36_6 rfl (congrArg Value.int h1) rfl) ?_
  exact mX_maskK lm_36_494 rfl
theorem s_36_0_5 {d : Nat} {a0 : Nat} {w : MW} (h0 : mTg w a0 = 2) (h1 : (mI w a0 3) = (nI 5)) : mX d 36 0 [.ref a0, mJ] [] w = mX d 36 494 [mJ, mJ] [] w := by
  refine Eq.trans (X_st f_36_0 rfl rfl) ?_
  refine Eq.trans (X_getI f_36_1 h0 rfl) ?_
  refine Eq.trans (X_istore_n (L' := [.ref a0, .int (mI w a0 3)]) f_36_4 (Nat.le_of_ble_eq_true rfl) rfl) ?_
  refine Eq.trans (X_st f_36_5 rfl rfl) ?_
  refine Eq.trans (X_sw f_36_6 rfl (congrArg Value.int h1) rfl) ?_
  exact mX_maskK lm_36_494 rfl
theorem s_36_0_6 {d : Nat} {a0 : Nat} {w : MW} (h0 : mTg w a0 = 2) (h1 : (mI w a0 3) = (nI 6)) : mX d 36 0 [.ref a0, mJ] [] w = mX d 36 228 [.ref a0, mJ] [] w := by
  refine Eq.trans (X_st f_36_0 rfl rfl) ?_
  refine Eq.trans (X_getI f_36_1 h0 rfl) ?_
  refine Eq.trans (X_istore_n (L' := [.ref a0, .int (mI w a0 3)]) f_36_4 (Nat.le_of_ble_eq_true rfl) rfl) ?_
  refine Eq.trans (X_st f_36_5 rfl rfl) ?_
  refine Eq.trans (X_sw f_36_6 rfl (congrArg Value.int h1) rfl) ?_
  exact mX_maskK lm_36_228 rfl
theorem s_36_0_7 {d : Nat} {a0 : Nat} {w : MW} (h0 : mTg w a0 = 2) (h1 : (mI w a0 3) = (nI 7)) : mX d 36 0 [.ref a0, mJ] [] w = mX d 36 494 [mJ, mJ] [] w := by
  refine Eq.trans (X_st f_36_0 rfl rfl) ?_
  refine Eq.trans (X_getI f_36_1 h0 rfl) ?_
  refine Eq.trans (X_istore_n (L' := [.ref a0, .int (mI w a0 3)]) f_36_4 (Nat.le_of_ble_eq_true rfl) rfl) ?_
  refine Eq.trans (X_st f_36_5 rfl rfl) ?_
  refine Eq.trans (X_sw f_36_6 rfl (congrArg Value.int h1) rfl) ?_
  exact mX_maskK lm_36_494 rfl
theorem s_36_0_8 {d : Nat} {a0 : Nat} {w : MW} (h0 : mTg w a0 = 2) (h1 : (mI w a0 3) = (nI 8)) : mX d 36 0 [.ref a0, mJ] [] w = mX d 36 274 [.ref a0, mJ] [] w := by
  refine Eq.trans (X_st f_36_0 rfl rfl) ?_
  refine Eq.trans (X_getI f_36_1 h0 rfl) ?_
  refine Eq.trans (X_istore_n (L' := [.ref a0, .int (mI w a0 3)]) f_36_4 (Nat.le_of_ble_eq_true rfl) rfl) ?_
  refine Eq.trans (X_st f_36_5 rfl rfl) ?_
  refine Eq.trans (X_sw f_36_6 rfl (congrArg Value.int h1) rfl) ?_
  exact mX_maskK lm_36_274 rfl
theorem s_36_0_9 {d : Nat} {a0 : Nat} {w : MW} (h0 : mTg w a0 = 2) (h1 : (mI w a0 3) = (nI 9)) : mX d 36 0 [.ref a0, mJ] [] w = mX d 36 494 [mJ, mJ] [] w := by
  refine Eq.trans (X_st f_36_0 rfl rfl) ?_
  refine Eq.trans (X_getI f_36_1 h0 rfl) ?_
  refine Eq.trans (X_istore_n (L' := [.ref a0, .int (mI w a0 3)]) f_36_4 (Nat.le_of_ble_eq_true rfl) rfl) ?_
  refine Eq.trans (X_st f_36_5 rfl rfl) ?_
  refine Eq.trans (X_sw f_36_6 rfl (congrArg Value.int h1) rfl) ?_
  exact mX_maskK lm_36_494 rfl
theorem s_36_0_10 {d : Nat} {a0 : Nat} {w : MW} (h0 : mTg w a0 = 2) (h1 : (mI w a0 3) = (nI 10)) : mX d 36 0 [.ref a0, mJ] [] w = mX d 36 494 [mJ, mJ] [] w := by
  refine Eq.trans (X_st f_36_0 rfl rfl) ?_
  refine Eq.trans (X_getI f_36_1 h0 rfl) ?_
  refine Eq.trans (X_istore_n (L' := [.ref a0, .int (mI w a0 3)]) f_36_4 (Nat.le_of_ble_eq_true rfl) rfl) ?_
  refine Eq.trans (X_st f_36_5 rfl rfl) ?_
  refine Eq.trans (X_sw f_36_6 rfl (congrArg Value.int h1) rfl) ?_
  exact mX_maskK lm_36_494 rfl
theorem s_36_0_11 {d : Nat} {a0 : Nat} {w : MW} (h0 : mTg w a0 = 2) (h1 : (mI w a0 3) = (nI 11)) : mX d 36 0 [.ref a0, mJ] [] w = mX d 36 330 [.ref a0, mJ] [] w := by
  refine Eq.trans (X_st f_36_0 rfl rfl) ?_
  refine Eq.trans (X_getI f_36_1 h0 rfl) ?_
  refine Eq.trans (X_istore_n (L' := [.ref a0, .int (mI w a0 3)]) f_36_4 (Nat.le_of_ble_eq_true rfl) rfl) ?_
  refine Eq.trans (X_st f_36_5 rfl rfl) ?_
  refine Eq.trans (X_sw f_36_6 rfl (congrArg Value.int h1) rfl) ?_
  exact mX_maskK lm_36_330 rfl
theorem s_36_0_12 {d : Nat} {a0 : Nat} {w : MW} (h0 : mTg w a0 = 2) (h1 : (mI w a0 3) = (nI 12)) : mX d 36 0 [.ref a0, mJ] [] w = mX d 36 494 [mJ, mJ] [] w := by
  refine Eq.trans (X_st f_36_0 rfl rfl) ?_
  refine Eq.trans (X_getI f_36_1 h0 rfl) ?_
  refine Eq.trans (X_istore_n (L' := [.ref a0, .int (mI w a0 3)]) f_36_4 (Nat.le_of_ble_eq_true rfl) rfl) ?_
  refine Eq.trans (X_st f_36_5 rfl rfl) ?_
  refine Eq.trans (X_sw f_36_6 rfl (congrArg Value.int h1) rfl) ?_
  exact mX_maskK lm_36_494 rfl
theorem s_36_0_13 {d : Nat} {a0 : Nat} {w : MW} (h0 : mTg w a0 = 2) (h1 : (mI w a0 3) = (nI 13)) : mX d 36 0 [.ref a0, mJ] [] w = mX d 36 494 [mJ, mJ] [] w := by
  refine Eq.trans (X_st f_36_0 rfl rfl) ?_
  refine Eq.trans (X_getI f_36_1 h0 rfl) ?_
  refine Eq.trans (X_istore_n (L' := [.ref a0, .int (mI w a0 3)]) f_36_4 (Nat.le_of_ble_eq_true rfl) rfl) ?_
  refine Eq.trans (X_st f_36_5 rfl rfl) ?_
  refine Eq.trans (X_sw f_36_6 rfl (congrArg Value.int h1) rfl) ?_
  exact mX_maskK lm_36_494 rfl
theorem s_36_0_14 {d : Nat} {a0 : Nat} {w : MW} (h0 : mTg w a0 = 2) (h1 : (mI w a0 3) = (nI 14)) : mX d 36 0 [.ref a0, mJ] [] w = mX d 36 494 [mJ, mJ] [] w := by
  refine Eq.trans (X_st f_36_0 rfl rfl) ?_
  refine Eq.trans (X_getI f_36_1 h0 rfl) ?_
  refine Eq.trans (X_istore_n (L' := [.ref a0, .int (mI w a0 3)]) f_36_4 (Nat.le_of_ble_eq_true rfl) rfl) ?_
  refine Eq.trans (X_st f_36_5 rfl rfl) ?_
  refine Eq.trans (X_sw f_36_6 rfl (congrArg Value.int h1) rfl) ?_
  exact mX_maskK lm_36_494 rfl
theorem s_36_0_15 {d : Nat} {a0 : Nat} {w : MW} (h0 : mTg w a0 = 2) (h1 : (mI w a0 3) = (nI 15)) : mX d 36 0 [.ref a0, mJ] [] w = mX d 36 420 [.ref a0, .int (mI w a0 3)] [] w := by
  refine Eq.trans (X_st f_36_0 rfl rfl) ?_
  refine Eq.trans (X_getI f_36_1 h0 rfl) ?_
  refine Eq.trans (X_istore_n (L' := [.ref a0, .int (mI w a0 3)]) f_36_4 (Nat.le_of_ble_eq_true rfl) rfl) ?_
  refine Eq.trans (X_st f_36_5 rfl rfl) ?_
  refine Eq.trans (X_sw f_36_6 rfl (congrArg Value.int h1) rfl) ?_
  exact mX_maskK lm_36_420 rfl
theorem s_36_0_16 {d : Nat} {a0 : Nat} {w : MW} (h0 : mTg w a0 = 2) (h1 : (mI w a0 3) = (nI 16)) : mX d 36 0 [.ref a0, mJ] [] w = mX d 36 420 [.ref a0, .int (mI w a0 3)] [] w := by
  refine Eq.trans (X_st f_36_0 rfl rfl) ?_
  refine Eq.trans (X_getI f_36_1 h0 rfl) ?_
  refine Eq.trans (X_istore_n (L' := [.ref a0, .int (mI w a0 3)]) f_36_4 (Nat.le_of_ble_eq_true rfl) rfl) ?_
  refine Eq.trans (X_st f_36_5 rfl rfl) ?_
  refine Eq.trans (X_sw f_36_6 rfl (congrArg Value.int h1) rfl) ?_
  exact mX_maskK lm_36_420 rfl
theorem s_36_0_17 {d : Nat} {a0 : Nat} {w : MW} (h0 : mTg w a0 = 2) (h1 : (mI w a0 3) = (nI 17)) : mX d 36 0 [.ref a0, mJ] [] w = mX d 36 420 [.ref a0, .int (mI w a0 3)] [] w := by
  refine Eq.trans (X_st f_36_0 rfl rfl) ?_
  refine Eq.trans (X_getI f_36_1 h0 rfl) ?_
  refine Eq.trans (X_istore_n (L' := [.ref a0, .int (mI w a0 3)]) f_36_4 (Nat.le_of_ble_eq_true rfl) rfl) ?_
  refine Eq.trans (X_st f_36_5 rfl rfl) ?_
  refine Eq.trans (X_sw f_36_6 rfl (congrArg Value.int h1) rfl) ?_
  exact mX_maskK lm_36_420 rfl
theorem s_36_0_d {d : Nat} {a0 : Nat} {w : MW} (h0 : mTg w a0 = 2) (h1 : ((mI w a0 3)).toInt < 0 ∨ 17 < ((mI w a0 3)).toInt) : mX d 36 0 [.ref a0, mJ] [] w = mX d 36 494 [mJ, mJ] [] w := by
  refine Eq.trans (X_st f_36_0 rfl rfl) ?_
  refine Eq.trans (X_getI f_36_1 h0 rfl) ?_
  refine Eq.trans (X_istore_n (L' := [.ref a0, .int (mI w a0 3)]) f_36_4 (Nat.le_of_ble_eq_true rfl) rfl) ?_
  refine Eq.trans (X_st f_36_5 rfl rfl) ?_
  refine Eq.trans (X_swD f_36_6 h1 rfl) ?_
  exact mX_maskK lm_36_494 rfl
theorem e_36 {d : Nat} {a0 : Nat} {w : MW} : mK d 36 [.ref a0] w = mX d 36 0 [.ref a0, mJ] [] w := rfl
theorem b_36_92 {d : Nat} {a0 : Nat} {w : MW} (h0 : mTg w a0 = 2) : mX (d + 1) 36 92 [.ref a0, mJ] [] w = mThen (mK d 35 [.ref a0, .int (nI 0), .int (nI 0)] w) (fun v w9 => mX (d + 1) 36 98 [.ref a0, mJ] (v.toList ++ []) w9) := by
  refine Eq.trans (X_st f_36_92 rfl rfl) ?_
  refine Eq.trans (X_iconst f_36_93 kc_i_0) ?_
  refine Eq.trans (X_iconst f_36_94 kc_i_0) ?_
  refine Eq.trans (X_call f_36_95 (by decide) rfl rfl rfl rfl rfl rfl (Nat.le_of_ble_eq_true rfl) (Nat.le_of_ble_eq_true rfl) (decide_eq_true h0) (Nat.le_of_ble_eq_true rfl)) ?_
  exact mThen_eq fun v w9 => mX_maskK lm_36_98 rfl
theorem b_36_98 {d : Nat} {a0 : Nat} {y0 : Int32} {w : MW} : mX d 36 98 [.ref a0, mJ] [.int y0] w = (if y0 = nI 0 then mX d 36 137 [mJ, mJ] [] w else mX d 36 101 [.ref a0, mJ] [] w) := by
  refine Eq.trans (X_br f_36_98 rfl rfl) ?_
  exact mIte_eq (mX_maskK lm_36_137 rfl) (mX_maskK lm_36_101 rfl)
theorem b_36_101 {d : Nat} {a0 : Nat} {w : MW} (h0 : mTg w a0 = 2) : mX (d + 1) 36 101 [.ref a0, mJ] [] w = mThen (mK d 35 [.ref a0, .int (nI 258), .int (nI 1)] w) (fun v w9 => mX (d + 1) 36 109 [.ref a0, mJ] (v.toList ++ []) w9) := by
  refine Eq.trans (X_st f_36_101 rfl rfl) ?_
  refine Eq.trans (X_sipush f_36_102 kc_s_258) ?_
  refine Eq.trans (X_iconst f_36_105 kc_i_1) ?_
  refine Eq.trans (X_call f_36_106 (by decide) rfl rfl rfl rfl rfl rfl (Nat.le_of_ble_eq_true rfl) (Nat.le_of_ble_eq_true rfl) (decide_eq_true h0) (Nat.le_of_ble_eq_true rfl)) ?_
  exact mThen_eq fun v w9 => mX_maskK lm_36_109 rfl
theorem b_36_109 {d : Nat} {a0 : Nat} {y0 : Int32} {w : MW} : mX d 36 109 [.ref a0, mJ] [.int y0] w = (if y0 = nI 0 then mX d 36 137 [mJ, mJ] [] w else mX d 36 112 [.ref a0, mJ] [] w) := by
  refine Eq.trans (X_br f_36_109 rfl rfl) ?_
  exact mIte_eq (mX_maskK lm_36_137 rfl) (mX_maskK lm_36_112 rfl)
theorem b_36_112 {d : Nat} {a0 : Nat} {w : MW} (h0 : mTg w a0 = 2) : mX (d + 1) 36 112 [.ref a0, mJ] [] w = mThen (mK d 35 [.ref a0, .int (nI 1), .int (nI 0)] w) (fun v w9 => mX (d + 1) 36 118 [.ref a0, mJ] (v.toList ++ []) w9) := by
  refine Eq.trans (X_st f_36_112 rfl rfl) ?_
  refine Eq.trans (X_iconst f_36_113 kc_i_1) ?_
  refine Eq.trans (X_iconst f_36_114 kc_i_0) ?_
  refine Eq.trans (X_call f_36_115 (by decide) rfl rfl rfl rfl rfl rfl (Nat.le_of_ble_eq_true rfl) (Nat.le_of_ble_eq_true rfl) (decide_eq_true h0) (Nat.le_of_ble_eq_true rfl)) ?_
  exact mThen_eq fun v w9 => mX_maskK lm_36_118 rfl
theorem b_36_118 {d : Nat} {a0 : Nat} {y0 : Int32} {w : MW} : mX d 36 118 [.ref a0, mJ] [.int y0] w = (if y0 = nI 0 then mX d 36 137 [mJ, mJ] [] w else mX d 36 121 [.ref a0, mJ] [] w) := by
  refine Eq.trans (X_br f_36_118 rfl rfl) ?_
  exact mIte_eq (mX_maskK lm_36_137 rfl) (mX_maskK lm_36_121 rfl)
theorem b_36_121 {d : Nat} {a0 : Nat} {w : MW} (h0 : mTg w a0 = 2) : mX (d + 1) 36 121 [.ref a0, mJ] [] w = mThen (mK d 35 [.ref a0, .int (nI 259), .int (nI 14)] w) (fun v w9 => mX (d + 1) 36 130 [mJ, mJ] (v.toList ++ []) w9) := by
  refine Eq.trans (X_st f_36_121 rfl rfl) ?_
  refine Eq.trans (X_sipush f_36_122 kc_s_259) ?_
  refine Eq.trans (X_bipush f_36_125 kc_b_14) ?_
  refine Eq.trans (X_call f_36_127 (by decide) rfl rfl rfl rfl rfl rfl (Nat.le_of_ble_eq_true rfl) (Nat.le_of_ble_eq_true rfl) (decide_eq_true h0) (Nat.le_of_ble_eq_true rfl)) ?_
  exact mThen_eq fun v w9 => mX_maskK lm_36_130 rfl
theorem b_36_130 {d : Nat} {y0 : Int32} {w : MW} : mX d 36 130 [mJ, mJ] [.int y0] w = (if y0 = nI 0 then mX d 36 137 [mJ, mJ] [] w else mX d 36 133 [mJ, mJ] [] w) := by
  refine Eq.trans (X_br f_36_130 rfl rfl) ?_
  exact mIte_eq (mX_maskK lm_36_137 rfl) (mX_maskK lm_36_133 rfl)
theorem b_36_133 {d : Nat} {w : MW} : mX d 36 133 [mJ, mJ] [] w = mX d 36 138 [mJ, mJ] [.int (nI 1)] w := by
  refine Eq.trans (X_iconst f_36_133 kc_i_1) ?_
  refine Eq.trans (X_st f_36_134 rfl rfl) ?_
  exact mX_maskK lm_36_138 rfl
theorem b_36_137 {d : Nat} {w : MW} : mX d 36 137 [mJ, mJ] [] w = mX d 36 138 [mJ, mJ] [.int (nI 0)] w := by
  refine Eq.trans (X_iconst f_36_137 kc_i_0) ?_
  exact mX_maskK lm_36_138 rfl
theorem b_36_138 {d : Nat} {y0 : Int32} {w : MW} (h0 : mRk 2 y0 = true) : mX d 36 138 [mJ, mJ] [.int y0] w = some (.inl (some (.int y0)), w) := by
  exact X_ireturn f_36_138 h0
theorem b_36_139 {d : Nat} {a0 : Nat} {w : MW} (h0 : mTg w a0 = 2) : mX (d + 1) 36 139 [.ref a0, mJ] [] w = mThen (mK d 35 [.ref a0, .int (nI 2), .int (nI 0)] w) (fun v w9 => mX (d + 1) 36 145 [.ref a0, mJ] (v.toList ++ []) w9) := by
  refine Eq.trans (X_st f_36_139 rfl rfl) ?_
  refine Eq.trans (X_iconst f_36_140 kc_i_2) ?_
  refine Eq.trans (X_iconst f_36_141 kc_i_0) ?_
  refine Eq.trans (X_call f_36_142 (by decide) rfl rfl rfl rfl rfl rfl (Nat.le_of_ble_eq_true rfl) (Nat.le_of_ble_eq_true rfl) (decide_eq_true h0) (Nat.le_of_ble_eq_true rfl)) ?_
  exact mThen_eq fun v w9 => mX_maskK lm_36_145 rfl
theorem b_36_145 {d : Nat} {a0 : Nat} {y0 : Int32} {w : MW} : mX d 36 145 [.ref a0, mJ] [.int y0] w = (if y0 = nI 0 then mX d 36 226 [mJ, mJ] [] w else mX d 36 148 [.ref a0, mJ] [] w) := by
  refine Eq.trans (X_br f_36_145 rfl rfl) ?_
  exact mIte_eq (mX_maskK lm_36_226 rfl) (mX_maskK lm_36_148 rfl)
theorem b_36_148 {d : Nat} {a0 : Nat} {w : MW} (h0 : mTg w a0 = 2) : mX (d + 1) 36 148 [.ref a0, mJ] [] w = mThen (mK d 35 [.ref a0, .int (nI 258), .int (nI 2)] w) (fun v w9 => mX (d + 1) 36 156 [.ref a0, mJ] (v.toList ++ []) w9) := by
  refine Eq.trans (X_st f_36_148 rfl rfl) ?_
  refine Eq.trans (X_sipush f_36_149 kc_s_258) ?_
  refine Eq.trans (X_iconst f_36_152 kc_i_2) ?_
  refine Eq.trans (X_call f_36_153 (by decide) rfl rfl rfl rfl rfl rfl (Nat.le_of_ble_eq_true rfl) (Nat.le_of_ble_eq_true rfl) (decide_eq_true h0) (Nat.le_of_ble_eq_true rfl)) ?_
  exact mThen_eq fun v w9 => mX_maskK lm_36_156 rfl
theorem b_36_156 {d : Nat} {a0 : Nat} {y0 : Int32} {w : MW} : mX d 36 156 [.ref a0, mJ] [.int y0] w = (if y0 = nI 0 then mX d 36 226 [mJ, mJ] [] w else mX d 36 159 [.ref a0, mJ] [] w) := by
  refine Eq.trans (X_br f_36_156 rfl rfl) ?_
  exact mIte_eq (mX_maskK lm_36_226 rfl) (mX_maskK lm_36_159 rfl)
theorem b_36_159 {d : Nat} {a0 : Nat} {w : MW} (h0 : mTg w a0 = 2) : mX (d + 1) 36 159 [.ref a0, mJ] [] w = mThen (mK d 35 [.ref a0, .int (nI 3), .int (nI 0)] w) (fun v w9 => mX (d + 1) 36 165 [.ref a0, mJ] (v.toList ++ []) w9) := by
  refine Eq.trans (X_st f_36_159 rfl rfl) ?_
  refine Eq.trans (X_iconst f_36_160 kc_i_3) ?_
  refine Eq.trans (X_iconst f_36_161 kc_i_0) ?_
  refine Eq.trans (X_call f_36_162 (by decide) rfl rfl rfl rfl rfl rfl (Nat.le_of_ble_eq_true rfl) (Nat.le_of_ble_eq_true rfl) (decide_eq_true h0) (Nat.le_of_ble_eq_true rfl)) ?_
  exact mThen_eq fun v w9 => mX_maskK lm_36_165 rfl
theorem b_36_165 {d : Nat} {a0 : Nat} {y0 : Int32} {w : MW} : mX d 36 165 [.ref a0, mJ] [.int y0] w = (if y0 = nI 0 then mX d 36 226 [mJ, mJ] [] w else mX d 36 168 [.ref a0, mJ] [] w) := by
  refine Eq.trans (X_br f_36_165 rfl rfl) ?_
  exact mIte_eq (mX_maskK lm_36_226 rfl) (mX_maskK lm_36_168 rfl)
theorem b_36_168 {d : Nat} {a0 : Nat} {w : MW} (h0 : mTg w a0 = 2) : mX (d + 1) 36 168 [.ref a0, mJ] [] w = mThen (mK d 35 [.ref a0, .int (nI 258), .int (nI 7)] w) (fun v w9 => mX (d + 1) 36 177 [.ref a0, mJ] (v.toList ++ []) w9) := by
  refine Eq.trans (X_st f_36_168 rfl rfl) ?_
  refine Eq.trans (X_sipush f_36_169 kc_s_258) ?_
  refine Eq.trans (X_bipush f_36_172 kc_b_7) ?_
  refine Eq.trans (X_call f_36_174 (by decide) rfl rfl rfl rfl rfl rfl (Nat.le_of_ble_eq_true rfl) (Nat.le_of_ble_eq_true rfl) (decide_eq_true h0) (Nat.le_of_ble_eq_true rfl)) ?_
  exact mThen_eq fun v w9 => mX_maskK lm_36_177 rfl
theorem b_36_177 {d : Nat} {a0 : Nat} {y0 : Int32} {w : MW} : mX d 36 177 [.ref a0, mJ] [.int y0] w = (if y0 = nI 0 then mX d 36 226 [mJ, mJ] [] w else mX d 36 180 [.ref a0, mJ] [] w) := by
  refine Eq.trans (X_br f_36_177 rfl rfl) ?_
  exact mIte_eq (mX_maskK lm_36_226 rfl) (mX_maskK lm_36_180 rfl)
theorem b_36_180 {d : Nat} {a0 : Nat} {w : MW} (h0 : mTg w a0 = 2) : mX (d + 1) 36 180 [.ref a0, mJ] [] w = mThen (mK d 35 [.ref a0, .int (nI 4), .int (nI 0)] w) (fun v w9 => mX (d + 1) 36 186 [.ref a0, mJ] (v.toList ++ []) w9) := by
  refine Eq.trans (X_st f_36_180 rfl rfl) ?_
  refine Eq.trans (X_iconst f_36_181 kc_i_4) ?_
  refine Eq.trans (X_iconst f_36_182 kc_i_0) ?_
  refine Eq.trans (X_call f_36_183 (by decide) rfl rfl rfl rfl rfl rfl (Nat.le_of_ble_eq_true rfl) (Nat.le_of_ble_eq_true rfl) (decide_eq_true h0) (Nat.le_of_ble_eq_true rfl)) ?_
  exact mThen_eq fun v w9 => mX_maskK lm_36_186 rfl
theorem b_36_186 {d : Nat} {a0 : Nat} {y0 : Int32} {w : MW} : mX d 36 186 [.ref a0, mJ] [.int y0] w = (if y0 = nI 0 then mX d 36 226 [mJ, mJ] [] w else mX d 36 189 [.ref a0, mJ] [] w) := by
  refine Eq.trans (X_br f_36_186 rfl rfl) ?_
  exact mIte_eq (mX_maskK lm_36_226 rfl) (mX_maskK lm_36_189 rfl)
theorem b_36_189 {d : Nat} {a0 : Nat} {w : MW} (h0 : mTg w a0 = 2) : mX (d + 1) 36 189 [.ref a0, mJ] [] w = mThen (mK d 35 [.ref a0, .int (nI 259), .int (nI 15)] w) (fun v w9 => mX (d + 1) 36 198 [.ref a0, mJ] (v.toList ++ []) w9) := by
  refine Eq.trans (X_st f_36_189 rfl rfl) ?_
  refine Eq.trans (X_sipush f_36_190 kc_s_259) ?_
  refine Eq.trans (X_bipush f_36_193 kc_b_15) ?_
  refine Eq.trans (X_call f_36_195 (by decide) rfl rfl rfl rfl rfl rfl (Nat.le_of_ble_eq_true rfl) (Nat.le_of_ble_eq_true rfl) (decide_eq_true h0) (Nat.le_of_ble_eq_true rfl)) ?_
  exact mThen_eq fun v w9 => mX_maskK lm_36_198 rfl
theorem b_36_198 {d : Nat} {a0 : Nat} {y0 : Int32} {w : MW} : mX d 36 198 [.ref a0, mJ] [.int y0] w = (if y0 = nI 0 then mX d 36 226 [mJ, mJ] [] w else mX d 36 201 [.ref a0, mJ] [] w) := by
  refine Eq.trans (X_br f_36_198 rfl rfl) ?_
  exact mIte_eq (mX_maskK lm_36_226 rfl) (mX_maskK lm_36_201 rfl)
theorem b_36_201 {d : Nat} {a0 : Nat} {w : MW} (h0 : mTg w a0 = 2) : mX (d + 1) 36 201 [.ref a0, mJ] [] w = mThen (mK d 35 [.ref a0, .int (nI 5), .int (nI 0)] w) (fun v w9 => mX (d + 1) 36 207 [.ref a0, mJ] (v.toList ++ []) w9) := by
  refine Eq.trans (X_st f_36_201 rfl rfl) ?_
  refine Eq.trans (X_iconst f_36_202 kc_i_5) ?_
  refine Eq.trans (X_iconst f_36_203 kc_i_0) ?_
  refine Eq.trans (X_call f_36_204 (by decide) rfl rfl rfl rfl rfl rfl (Nat.le_of_ble_eq_true rfl) (Nat.le_of_ble_eq_true rfl) (decide_eq_true h0) (Nat.le_of_ble_eq_true rfl)) ?_
  exact mThen_eq fun v w9 => mX_maskK lm_36_207 rfl
theorem b_36_207 {d : Nat} {a0 : Nat} {y0 : Int32} {w : MW} : mX d 36 207 [.ref a0, mJ] [.int y0] w = (if y0 = nI 0 then mX d 36 226 [mJ, mJ] [] w else mX d 36 210 [.ref a0, mJ] [] w) := by
  refine Eq.trans (X_br f_36_207 rfl rfl) ?_
  exact mIte_eq (mX_maskK lm_36_226 rfl) (mX_maskK lm_36_210 rfl)
theorem b_36_210 {d : Nat} {a0 : Nat} {w : MW} (h0 : mTg w a0 = 2) : mX (d + 1) 36 210 [.ref a0, mJ] [] w = mThen (mK d 35 [.ref a0, .int (nI 259), .int (nI 16)] w) (fun v w9 => mX (d + 1) 36 219 [mJ, mJ] (v.toList ++ []) w9) := by
  refine Eq.trans (X_st f_36_210 rfl rfl) ?_
  refine Eq.trans (X_sipush f_36_211 kc_s_259) ?_
  refine Eq.trans (X_bipush f_36_214 kc_b_16) ?_
  refine Eq.trans (X_call f_36_216 (by decide) rfl rfl rfl rfl rfl rfl (Nat.le_of_ble_eq_true rfl) (Nat.le_of_ble_eq_true rfl) (decide_eq_true h0) (Nat.le_of_ble_eq_true rfl)) ?_
  exact mThen_eq fun v w9 => mX_maskK lm_36_219 rfl
theorem b_36_219 {d : Nat} {y0 : Int32} {w : MW} : mX d 36 219 [mJ, mJ] [.int y0] w = (if y0 = nI 0 then mX d 36 226 [mJ, mJ] [] w else mX d 36 222 [mJ, mJ] [] w) := by
  refine Eq.trans (X_br f_36_219 rfl rfl) ?_
  exact mIte_eq (mX_maskK lm_36_226 rfl) (mX_maskK lm_36_222 rfl)
theorem b_36_222 {d : Nat} {w : MW} : mX d 36 222 [mJ, mJ] [] w = mX d 36 227 [mJ, mJ] [.int (nI 1)] w := by
  refine Eq.trans (X_iconst f_36_222 kc_i_1) ?_
  refine Eq.trans (X_st f_36_223 rfl rfl) ?_
  exact mX_maskK lm_36_227 rfl
theorem b_36_226 {d : Nat} {w : MW} : mX d 36 226 [mJ, mJ] [] w = mX d 36 227 [mJ, mJ] [.int (nI 0)] w := by
  refine Eq.trans (X_iconst f_36_226 kc_i_0) ?_
  exact mX_maskK lm_36_227 rfl
theorem b_36_227 {d : Nat} {y0 : Int32} {w : MW} (h0 : mRk 2 y0 = true) : mX d 36 227 [mJ, mJ] [.int y0] w = some (.inl (some (.int y0)), w) := by
  exact X_ireturn f_36_227 h0
theorem b_36_228 {d : Nat} {a0 : Nat} {w : MW} (h0 : mTg w a0 = 2) : mX (d + 1) 36 228 [.ref a0, mJ] [] w = mThen (mK d 35 [.ref a0, .int (nI 6), .int (nI 0)] w) (fun v w9 => mX (d + 1) 36 235 [.ref a0, mJ] (v.toList ++ []) w9) := by
  refine Eq.trans (X_st f_36_228 rfl rfl) ?_
  refine Eq.trans (X_bipush f_36_229 kc_b_6) ?_
  refine Eq.trans (X_iconst f_36_231 kc_i_0) ?_
  refine Eq.trans (X_call f_36_232 (by decide) rfl rfl rfl rfl rfl rfl (Nat.le_of_ble_eq_true rfl) (Nat.le_of_ble_eq_true rfl) (decide_eq_true h0) (Nat.le_of_ble_eq_true rfl)) ?_
  exact mThen_eq fun v w9 => mX_maskK lm_36_235 rfl
theorem b_36_235 {d : Nat} {a0 : Nat} {y0 : Int32} {w : MW} : mX d 36 235 [.ref a0, mJ] [.int y0] w = (if y0 = nI 0 then mX d 36 272 [mJ, mJ] [] w else mX d 36 238 [.ref a0, mJ] [] w) := by
  refine Eq.trans (X_br f_36_235 rfl rfl) ?_
  exact mIte_eq (mX_maskK lm_36_272 rfl) (mX_maskK lm_36_238 rfl)
theorem b_36_238 {d : Nat} {a0 : Nat} {w : MW} (h0 : mTg w a0 = 2) : mX (d + 1) 36 238 [.ref a0, mJ] [] w = mThen (mK d 35 [.ref a0, .int (nI 258), .int (nI 3)] w) (fun v w9 => mX (d + 1) 36 246 [.ref a0, mJ] (v.toList ++ []) w9) := by
  refine Eq.trans (X_st f_36_238 rfl rfl) ?_
  refine Eq.trans (X_sipush f_36_239 kc_s_258) ?_
  refine Eq.trans (X_iconst f_36_242 kc_i_3) ?_
  refine Eq.trans (X_call f_36_243 (by decide) rfl rfl rfl rfl rfl rfl (Nat.le_of_ble_eq_true rfl) (Nat.le_of_ble_eq_true rfl) (decide_eq_true h0) (Nat.le_of_ble_eq_true rfl)) ?_
  exact mThen_eq fun v w9 => mX_maskK lm_36_246 rfl
theorem b_36_246 {d : Nat} {a0 : Nat} {y0 : Int32} {w : MW} : mX d 36 246 [.ref a0, mJ] [.int y0] w = (if y0 = nI 0 then mX d 36 272 [mJ, mJ] [] w else mX d 36 249 [.ref a0, mJ] [] w) := by
  refine Eq.trans (X_br f_36_246 rfl rfl) ?_
  exact mIte_eq (mX_maskK lm_36_272 rfl) (mX_maskK lm_36_249 rfl)
theorem b_36_249 {d : Nat} {a0 : Nat} {w : MW} (h0 : mTg w a0 = 2) : mX (d + 1) 36 249 [.ref a0, mJ] [] w = mThen (mK d 35 [.ref a0, .int (nI 7), .int (nI 0)] w) (fun v w9 => mX (d + 1) 36 256 [.ref a0, mJ] (v.toList ++ []) w9) := by
  refine Eq.trans (X_st f_36_249 rfl rfl) ?_
  refine Eq.trans (X_bipush f_36_250 kc_b_7) ?_
  refine Eq.trans (X_iconst f_36_252 kc_i_0) ?_
  refine Eq.trans (X_call f_36_253 (by decide) rfl rfl rfl rfl rfl rfl (Nat.le_of_ble_eq_true rfl) (Nat.le_of_ble_eq_true rfl) (decide_eq_true h0) (Nat.le_of_ble_eq_true rfl)) ?_
  exact mThen_eq fun v w9 => mX_maskK lm_36_256 rfl
theorem b_36_256 {d : Nat} {a0 : Nat} {y0 : Int32} {w : MW} : mX d 36 256 [.ref a0, mJ] [.int y0] w = (if y0 = nI 0 then mX d 36 272 [mJ, mJ] [] w else mX d 36 259 [.ref a0, mJ] [] w) := by
  refine Eq.trans (X_br f_36_256 rfl rfl) ?_
  exact mIte_eq (mX_maskK lm_36_272 rfl) (mX_maskK lm_36_259 rfl)
theorem b_36_259 {d : Nat} {a0 : Nat} {w : MW} (h0 : mTg w a0 = 2) : mX (d + 1) 36 259 [.ref a0, mJ] [] w = mThen (mK d 37 [.ref a0, .int (nI 9)] w) (fun v w9 => mX (d + 1) 36 265 [mJ, mJ] (v.toList ++ []) w9) := by
  refine Eq.trans (X_st f_36_259 rfl rfl) ?_
  refine Eq.trans (X_bipush f_36_260 kc_b_9) ?_
  refine Eq.trans (X_call f_36_262 (by decide) rfl rfl rfl rfl rfl rfl (Nat.le_of_ble_eq_true rfl) (Nat.le_of_ble_eq_true rfl) (decide_eq_true h0) (Nat.le_of_ble_eq_true rfl)) ?_
  exact mThen_eq fun v w9 => mX_maskK lm_36_265 rfl
theorem b_36_265 {d : Nat} {y0 : Int32} {w : MW} : mX d 36 265 [mJ, mJ] [.int y0] w = (if y0 = nI 0 then mX d 36 272 [mJ, mJ] [] w else mX d 36 268 [mJ, mJ] [] w) := by
  refine Eq.trans (X_br f_36_265 rfl rfl) ?_
  exact mIte_eq (mX_maskK lm_36_272 rfl) (mX_maskK lm_36_268 rfl)
theorem b_36_268 {d : Nat} {w : MW} : mX d 36 268 [mJ, mJ] [] w = mX d 36 273 [mJ, mJ] [.int (nI 1)] w := by
  refine Eq.trans (X_iconst f_36_268 kc_i_1) ?_
  refine Eq.trans (X_st f_36_269 rfl rfl) ?_
  exact mX_maskK lm_36_273 rfl
theorem b_36_272 {d : Nat} {w : MW} : mX d 36 272 [mJ, mJ] [] w = mX d 36 273 [mJ, mJ] [.int (nI 0)] w := by
  refine Eq.trans (X_iconst f_36_272 kc_i_0) ?_
  exact mX_maskK lm_36_273 rfl
theorem b_36_273 {d : Nat} {y0 : Int32} {w : MW} (h0 : mRk 2 y0 = true) : mX d 36 273 [mJ, mJ] [.int y0] w = some (.inl (some (.int y0)), w) := by
  exact X_ireturn f_36_273 h0
theorem b_36_274 {d : Nat} {a0 : Nat} {w : MW} (h0 : mTg w a0 = 2) : mX (d + 1) 36 274 [.ref a0, mJ] [] w = mThen (mK d 35 [.ref a0, .int (nI 8), .int (nI 0)] w) (fun v w9 => mX (d + 1) 36 281 [.ref a0, mJ] (v.toList ++ []) w9) := by
  refine Eq.trans (X_st f_36_274 rfl rfl) ?_
  refine Eq.trans (X_bipush f_36_275 kc_b_8) ?_
  refine Eq.trans (X_iconst f_36_277 kc_i_0) ?_
  refine Eq.trans (X_call f_36_278 (by decide) rfl rfl rfl rfl rfl rfl (Nat.le_of_ble_eq_true rfl) (Nat.le_of_ble_eq_true rfl) (decide_eq_true h0) (Nat.le_of_ble_eq_true rfl)) ?_
  exact mThen_eq fun v w9 => mX_maskK lm_36_281 rfl
theorem b_36_281 {d : Nat} {a0 : Nat} {y0 : Int32} {w : MW} : mX d 36 281 [.ref a0, mJ] [.int y0] w = (if y0 = nI 0 then mX d 36 328 [mJ, mJ] [] w else mX d 36 284 [.ref a0, mJ] [] w) := by
  refine Eq.trans (X_br f_36_281 rfl rfl) ?_
  exact mIte_eq (mX_maskK lm_36_328 rfl) (mX_maskK lm_36_284 rfl)
theorem b_36_284 {d : Nat} {a0 : Nat} {w : MW} (h0 : mTg w a0 = 2) : mX (d + 1) 36 284 [.ref a0, mJ] [] w = mThen (mK d 35 [.ref a0, .int (nI 258), .int (nI 4)] w) (fun v w9 => mX (d + 1) 36 292 [.ref a0, mJ] (v.toList ++ []) w9) := by
  refine Eq.trans (X_st f_36_284 rfl rfl) ?_
  refine Eq.trans (X_sipush f_36_285 kc_s_258) ?_
  refine Eq.trans (X_iconst f_36_288 kc_i_4) ?_
  refine Eq.trans (X_call f_36_289 (by decide) rfl rfl rfl rfl rfl rfl (Nat.le_of_ble_eq_true rfl) (Nat.le_of_ble_eq_true rfl) (decide_eq_true h0) (Nat.le_of_ble_eq_true rfl)) ?_
  exact mThen_eq fun v w9 => mX_maskK lm_36_292 rfl
theorem b_36_292 {d : Nat} {a0 : Nat} {y0 : Int32} {w : MW} : mX d 36 292 [.ref a0, mJ] [.int y0] w = (if y0 = nI 0 then mX d 36 328 [mJ, mJ] [] w else mX d 36 295 [.ref a0, mJ] [] w) := by
  refine Eq.trans (X_br f_36_292 rfl rfl) ?_
  exact mIte_eq (mX_maskK lm_36_328 rfl) (mX_maskK lm_36_295 rfl)
theorem b_36_295 {d : Nat} {a0 : Nat} {w : MW} (h0 : mTg w a0 = 2) : mX (d + 1) 36 295 [.ref a0, mJ] [] w = mThen (mK d 35 [.ref a0, .int (nI 9), .int (nI 0)] w) (fun v w9 => mX (d + 1) 36 302 [.ref a0, mJ] (v.toList ++ []) w9) := by
  refine Eq.trans (X_st f_36_295 rfl rfl) ?_
  refine Eq.trans (X_bipush f_36_296 kc_b_9) ?_
  refine Eq.trans (X_iconst f_36_298 kc_i_0) ?_
  refine Eq.trans (X_call f_36_299 (by decide) rfl rfl rfl rfl rfl rfl (Nat.le_of_ble_eq_true rfl) (Nat.le_of_ble_eq_true rfl) (decide_eq_true h0) (Nat.le_of_ble_eq_true rfl)) ?_
  exact mThen_eq fun v w9 => mX_maskK lm_36_302 rfl
theorem b_36_302 {d : Nat} {a0 : Nat} {y0 : Int32} {w : MW} : mX d 36 302 [.ref a0, mJ] [.int y0] w = (if y0 = nI 0 then mX d 36 328 [mJ, mJ] [] w else mX d 36 305 [.ref a0, mJ] [] w) := by
  refine Eq.trans (X_br f_36_302 rfl rfl) ?_
  exact mIte_eq (mX_maskK lm_36_328 rfl) (mX_maskK lm_36_305 rfl)
theorem b_36_305 {d : Nat} {a0 : Nat} {w : MW} (h0 : mTg w a0 = 2) : mX (d + 1) 36 305 [.ref a0, mJ] [] w = mThen (mK d 35 [.ref a0, .int (nI 259), .int (nI 17)] w) (fun v w9 => mX (d + 1) 36 314 [.ref a0, mJ] (v.toList ++ []) w9) := by
  refine Eq.trans (X_st f_36_305 rfl rfl) ?_
  refine Eq.trans (X_sipush f_36_306 kc_s_259) ?_
  refine Eq.trans (X_bipush f_36_309 kc_b_17) ?_
  refine Eq.trans (X_call f_36_311 (by decide) rfl rfl rfl rfl rfl rfl (Nat.le_of_ble_eq_true rfl) (Nat.le_of_ble_eq_true rfl) (decide_eq_true h0) (Nat.le_of_ble_eq_true rfl)) ?_
  exact mThen_eq fun v w9 => mX_maskK lm_36_314 rfl
theorem b_36_314 {d : Nat} {a0 : Nat} {y0 : Int32} {w : MW} : mX d 36 314 [.ref a0, mJ] [.int y0] w = (if y0 = nI 0 then mX d 36 328 [mJ, mJ] [] w else mX d 36 317 [.ref a0, mJ] [] w) := by
  refine Eq.trans (X_br f_36_314 rfl rfl) ?_
  exact mIte_eq (mX_maskK lm_36_328 rfl) (mX_maskK lm_36_317 rfl)
theorem b_36_317 {d : Nat} {a0 : Nat} {w : MW} (h0 : mTg w a0 = 2) : mX (d + 1) 36 317 [.ref a0, mJ] [] w = mThen (mK d 38 [.ref a0] w) (fun v w9 => mX (d + 1) 36 321 [mJ, mJ] (v.toList ++ []) w9) := by
  refine Eq.trans (X_st f_36_317 rfl rfl) ?_
  refine Eq.trans (X_call f_36_318 (by decide) rfl rfl rfl rfl rfl rfl (Nat.le_of_ble_eq_true rfl) (Nat.le_of_ble_eq_true rfl) (decide_eq_true h0) (Nat.le_of_ble_eq_true rfl)) ?_
  exact mThen_eq fun v w9 => mX_maskK lm_36_321 rfl
theorem b_36_321 {d : Nat} {y0 : Int32} {w : MW} : mX d 36 321 [mJ, mJ] [.int y0] w = (if y0 = nI 0 then mX d 36 328 [mJ, mJ] [] w else mX d 36 324 [mJ, mJ] [] w) := by
  refine Eq.trans (X_br f_36_321 rfl rfl) ?_
  exact mIte_eq (mX_maskK lm_36_328 rfl) (mX_maskK lm_36_324 rfl)
theorem b_36_324 {d : Nat} {w : MW} : mX d 36 324 [mJ, mJ] [] w = mX d 36 329 [mJ, mJ] [.int (nI 1)] w := by
  refine Eq.trans (X_iconst f_36_324 kc_i_1) ?_
  refine Eq.trans (X_st f_36_325 rfl rfl) ?_
  exact mX_maskK lm_36_329 rfl
theorem b_36_328 {d : Nat} {w : MW} : mX d 36 328 [mJ, mJ] [] w = mX d 36 329 [mJ, mJ] [.int (nI 0)] w := by
  refine Eq.trans (X_iconst f_36_328 kc_i_0) ?_
  exact mX_maskK lm_36_329 rfl
theorem b_36_329 {d : Nat} {y0 : Int32} {w : MW} (h0 : mRk 2 y0 = true) : mX d 36 329 [mJ, mJ] [.int y0] w = some (.inl (some (.int y0)), w) := by
  exact X_ireturn f_36_329 h0
theorem b_36_330 {d : Nat} {a0 : Nat} {w : MW} (h0 : mTg w a0 = 2) : mX (d + 1) 36 330 [.ref a0, mJ] [] w = mThen (mK d 35 [.ref a0, .int (nI 11), .int (nI 0)] w) (fun v w9 => mX (d + 1) 36 337 [.ref a0, mJ] (v.toList ++ []) w9) := by
  refine Eq.trans (X_st f_36_330 rfl rfl) ?_
  refine Eq.trans (X_bipush f_36_331 kc_b_11) ?_
  refine Eq.trans (X_iconst f_36_333 kc_i_0) ?_
  refine Eq.trans (X_call f_36_334 (by decide) rfl rfl rfl rfl rfl rfl (Nat.le_of_ble_eq_true rfl) (Nat.le_of_ble_eq_true rfl) (decide_eq_true h0) (Nat.le_of_ble_eq_true rfl)) ?_
  exact mThen_eq fun v w9 => mX_maskK lm_36_337 rfl
theorem b_36_337 {d : Nat} {a0 : Nat} {y0 : Int32} {w : MW} : mX d 36 337 [.ref a0, mJ] [.int y0] w = (if y0 = nI 0 then mX d 36 418 [mJ, mJ] [] w else mX d 36 340 [.ref a0, mJ] [] w) := by
  refine Eq.trans (X_br f_36_337 rfl rfl) ?_
  exact mIte_eq (mX_maskK lm_36_418 rfl) (mX_maskK lm_36_340 rfl)
theorem b_36_340 {d : Nat} {a0 : Nat} {w : MW} (h0 : mTg w a0 = 2) : mX (d + 1) 36 340 [.ref a0, mJ] [] w = mThen (mK d 35 [.ref a0, .int (nI 258), .int (nI 5)] w) (fun v w9 => mX (d + 1) 36 348 [.ref a0, mJ] (v.toList ++ []) w9) := by
  refine Eq.trans (X_st f_36_340 rfl rfl) ?_
  refine Eq.trans (X_sipush f_36_341 kc_s_258) ?_
  refine Eq.trans (X_iconst f_36_344 kc_i_5) ?_
  refine Eq.trans (X_call f_36_345 (by decide) rfl rfl rfl rfl rfl rfl (Nat.le_of_ble_eq_true rfl) (Nat.le_of_ble_eq_true rfl) (decide_eq_true h0) (Nat.le_of_ble_eq_true rfl)) ?_
  exact mThen_eq fun v w9 => mX_maskK lm_36_348 rfl
theorem b_36_348 {d : Nat} {a0 : Nat} {y0 : Int32} {w : MW} : mX d 36 348 [.ref a0, mJ] [.int y0] w = (if y0 = nI 0 then mX d 36 418 [mJ, mJ] [] w else mX d 36 351 [.ref a0, mJ] [] w) := by
  refine Eq.trans (X_br f_36_348 rfl rfl) ?_
  exact mIte_eq (mX_maskK lm_36_418 rfl) (mX_maskK lm_36_351 rfl)
theorem b_36_351 {d : Nat} {a0 : Nat} {w : MW} (h0 : mTg w a0 = 2) : mX (d + 1) 36 351 [.ref a0, mJ] [] w = mThen (mK d 35 [.ref a0, .int (nI 12), .int (nI 0)] w) (fun v w9 => mX (d + 1) 36 358 [.ref a0, mJ] (v.toList ++ []) w9) := by
  refine Eq.trans (X_st f_36_351 rfl rfl) ?_
  refine Eq.trans (X_bipush f_36_352 kc_b_12) ?_
  refine Eq.trans (X_iconst f_36_354 kc_i_0) ?_
  refine Eq.trans (X_call f_36_355 (by decide) rfl rfl rfl rfl rfl rfl (Nat.le_of_ble_eq_true rfl) (Nat.le_of_ble_eq_true rfl) (decide_eq_true h0) (Nat.le_of_ble_eq_true rfl)) ?_
  exact mThen_eq fun v w9 => mX_maskK lm_36_358 rfl
theorem b_36_358 {d : Nat} {a0 : Nat} {y0 : Int32} {w : MW} : mX d 36 358 [.ref a0, mJ] [.int y0] w = (if y0 = nI 0 then mX d 36 418 [mJ, mJ] [] w else mX d 36 361 [.ref a0, mJ] [] w) := by
  refine Eq.trans (X_br f_36_358 rfl rfl) ?_
  exact mIte_eq (mX_maskK lm_36_418 rfl) (mX_maskK lm_36_361 rfl)
theorem b_36_361 {d : Nat} {a0 : Nat} {w : MW} (h0 : mTg w a0 = 2) : mX (d + 1) 36 361 [.ref a0, mJ] [] w = mThen (mK d 35 [.ref a0, .int (nI 259), .int (nI 19)] w) (fun v w9 => mX (d + 1) 36 370 [.ref a0, mJ] (v.toList ++ []) w9) := by
  refine Eq.trans (X_st f_36_361 rfl rfl) ?_
  refine Eq.trans (X_sipush f_36_362 kc_s_259) ?_
  refine Eq.trans (X_bipush f_36_365 kc_b_19) ?_
  refine Eq.trans (X_call f_36_367 (by decide) rfl rfl rfl rfl rfl rfl (Nat.le_of_ble_eq_true rfl) (Nat.le_of_ble_eq_true rfl) (decide_eq_true h0) (Nat.le_of_ble_eq_true rfl)) ?_
  exact mThen_eq fun v w9 => mX_maskK lm_36_370 rfl
theorem b_36_370 {d : Nat} {a0 : Nat} {y0 : Int32} {w : MW} : mX d 36 370 [.ref a0, mJ] [.int y0] w = (if y0 = nI 0 then mX d 36 418 [mJ, mJ] [] w else mX d 36 373 [.ref a0, mJ] [] w) := by
  refine Eq.trans (X_br f_36_370 rfl rfl) ?_
  exact mIte_eq (mX_maskK lm_36_418 rfl) (mX_maskK lm_36_373 rfl)
theorem b_36_373 {d : Nat} {a0 : Nat} {w : MW} (h0 : mTg w a0 = 2) : mX (d + 1) 36 373 [.ref a0, mJ] [] w = mThen (mK d 35 [.ref a0, .int (nI 13), .int (nI 0)] w) (fun v w9 => mX (d + 1) 36 380 [.ref a0, mJ] (v.toList ++ []) w9) := by
  refine Eq.trans (X_st f_36_373 rfl rfl) ?_
  refine Eq.trans (X_bipush f_36_374 kc_b_13) ?_
  refine Eq.trans (X_iconst f_36_376 kc_i_0) ?_
  refine Eq.trans (X_call f_36_377 (by decide) rfl rfl rfl rfl rfl rfl (Nat.le_of_ble_eq_true rfl) (Nat.le_of_ble_eq_true rfl) (decide_eq_true h0) (Nat.le_of_ble_eq_true rfl)) ?_
  exact mThen_eq fun v w9 => mX_maskK lm_36_380 rfl
theorem b_36_380 {d : Nat} {a0 : Nat} {y0 : Int32} {w : MW} : mX d 36 380 [.ref a0, mJ] [.int y0] w = (if y0 = nI 0 then mX d 36 418 [mJ, mJ] [] w else mX d 36 383 [.ref a0, mJ] [] w) := by
  refine Eq.trans (X_br f_36_380 rfl rfl) ?_
  exact mIte_eq (mX_maskK lm_36_418 rfl) (mX_maskK lm_36_383 rfl)
theorem b_36_383 {d : Nat} {a0 : Nat} {w : MW} (h0 : mTg w a0 = 2) : mX (d + 1) 36 383 [.ref a0, mJ] [] w = mThen (mK d 35 [.ref a0, .int (nI 259), .int (nI 20)] w) (fun v w9 => mX (d + 1) 36 392 [.ref a0, mJ] (v.toList ++ []) w9) := by
  refine Eq.trans (X_st f_36_383 rfl rfl) ?_
  refine Eq.trans (X_sipush f_36_384 kc_s_259) ?_
  refine Eq.trans (X_bipush f_36_387 kc_b_20) ?_
  refine Eq.trans (X_call f_36_389 (by decide) rfl rfl rfl rfl rfl rfl (Nat.le_of_ble_eq_true rfl) (Nat.le_of_ble_eq_true rfl) (decide_eq_true h0) (Nat.le_of_ble_eq_true rfl)) ?_
  exact mThen_eq fun v w9 => mX_maskK lm_36_392 rfl
theorem b_36_392 {d : Nat} {a0 : Nat} {y0 : Int32} {w : MW} : mX d 36 392 [.ref a0, mJ] [.int y0] w = (if y0 = nI 0 then mX d 36 418 [mJ, mJ] [] w else mX d 36 395 [.ref a0, mJ] [] w) := by
  refine Eq.trans (X_br f_36_392 rfl rfl) ?_
  exact mIte_eq (mX_maskK lm_36_418 rfl) (mX_maskK lm_36_395 rfl)
theorem b_36_395 {d : Nat} {a0 : Nat} {w : MW} (h0 : mTg w a0 = 2) : mX (d + 1) 36 395 [.ref a0, mJ] [] w = mThen (mK d 35 [.ref a0, .int (nI 14), .int (nI 0)] w) (fun v w9 => mX (d + 1) 36 402 [.ref a0, mJ] (v.toList ++ []) w9) := by
  refine Eq.trans (X_st f_36_395 rfl rfl) ?_
  refine Eq.trans (X_bipush f_36_396 kc_b_14) ?_
  refine Eq.trans (X_iconst f_36_398 kc_i_0) ?_
  refine Eq.trans (X_call f_36_399 (by decide) rfl rfl rfl rfl rfl rfl (Nat.le_of_ble_eq_true rfl) (Nat.le_of_ble_eq_true rfl) (decide_eq_true h0) (Nat.le_of_ble_eq_true rfl)) ?_
  exact mThen_eq fun v w9 => mX_maskK lm_36_402 rfl
theorem b_36_402 {d : Nat} {a0 : Nat} {y0 : Int32} {w : MW} : mX d 36 402 [.ref a0, mJ] [.int y0] w = (if y0 = nI 0 then mX d 36 418 [mJ, mJ] [] w else mX d 36 405 [.ref a0, mJ] [] w) := by
  refine Eq.trans (X_br f_36_402 rfl rfl) ?_
  exact mIte_eq (mX_maskK lm_36_418 rfl) (mX_maskK lm_36_405 rfl)
theorem b_36_405 {d : Nat} {a0 : Nat} {w : MW} (h0 : mTg w a0 = 2) : mX (d + 1) 36 405 [.ref a0, mJ] [] w = mThen (mK d 37 [.ref a0, .int (nI 10)] w) (fun v w9 => mX (d + 1) 36 411 [mJ, mJ] (v.toList ++ []) w9) := by
  refine Eq.trans (X_st f_36_405 rfl rfl) ?_
  refine Eq.trans (X_bipush f_36_406 kc_b_10) ?_
  refine Eq.trans (X_call f_36_408 (by decide) rfl rfl rfl rfl rfl rfl (Nat.le_of_ble_eq_true rfl) (Nat.le_of_ble_eq_true rfl) (decide_eq_true h0) (Nat.le_of_ble_eq_true rfl)) ?_
  exact mThen_eq fun v w9 => mX_maskK lm_36_411 rfl
theorem b_36_411 {d : Nat} {y0 : Int32} {w : MW} : mX d 36 411 [mJ, mJ] [.int y0] w = (if y0 = nI 0 then mX d 36 418 [mJ, mJ] [] w else mX d 36 414 [mJ, mJ] [] w) := by
  refine Eq.trans (X_br f_36_411 rfl rfl) ?_
  exact mIte_eq (mX_maskK lm_36_418 rfl) (mX_maskK lm_36_414 rfl)
theorem b_36_414 {d : Nat} {w : MW} : mX d 36 414 [mJ, mJ] [] w = mX d 36 419 [mJ, mJ] [.int (nI 1)] w := by
  refine Eq.trans (X_iconst f_36_414 kc_i_1) ?_
  refine Eq.trans (X_st f_36_415 rfl rfl) ?_
  exact mX_maskK lm_36_419 rfl
theorem b_36_418 {d : Nat} {w : MW} : mX d 36 418 [mJ, mJ] [] w = mX d 36 419 [mJ, mJ] [.int (nI 0)] w := by
  refine Eq.trans (X_iconst f_36_418 kc_i_0) ?_
  exact mX_maskK lm_36_419 rfl
theorem b_36_419 {d : Nat} {y0 : Int32} {w : MW} (h0 : mRk 2 y0 = true) : mX d 36 419 [mJ, mJ] [.int y0] w = some (.inl (some (.int y0)), w) := by
  exact X_ireturn f_36_419 h0
theorem b_36_420 {d : Nat} {a0 : Nat} {x1 : Int32} {w : MW} (h0 : mTg w a0 = 2) (h1 : mR w a0 0 = some (gR w a0 0)) (h2 : mTg w (gR w a0 0) = 7) (h3 : mR w (gR w a0 0) 5 = some (gR w (gR w a0 0) 5)) (h4 : mR w a0 1 = some (gR w a0 1)) (h5 : mTg w (gR w a0 1) = 1) : mX (d + 1) 36 420 [.ref a0, .int x1] [] w = mThen (mK d 124 [.ref (gR w (gR w a0 0) 5), .int (mI w a0 2), .int (mI w (gR w a0 1) 2)] w) (fun v w9 => mX (d + 1) 36 441 [.ref a0, .int x1] (v.toList ++ []) w9) := by
  refine Eq.trans (X_st f_36_420 rfl rfl) ?_
  refine Eq.trans (X_getR f_36_421 h0 rfl h1) ?_
  refine Eq.trans (X_getR f_36_424 h2 rfl h3) ?_
  refine Eq.trans (X_st f_36_427 rfl rfl) ?_
  refine Eq.trans (X_getI f_36_428 h0 rfl) ?_
  refine Eq.trans (X_st f_36_431 rfl rfl) ?_
  refine Eq.trans (X_getR f_36_432 h0 rfl h4) ?_
  refine Eq.trans (X_getI f_36_435 h5 rfl) ?_
  refine Eq.trans (X_call f_36_438 (by decide) rfl rfl rfl rfl rfl rfl (Nat.le_of_ble_eq_true rfl) (Nat.le_of_ble_eq_true rfl) rfl (Nat.le_of_ble_eq_true rfl)) ?_
  exact mThen_eq fun v w9 => mX_maskK lm_36_441 rfl
theorem b_36_441 {d : Nat} {a0 : Nat} {x1 : Int32} {w : MW} (h0 : mTg w a0 = 2) : mX (d + 1) 36 441 [.ref a0, .int x1] [] w = mThen (mK d 35 [.ref a0, .int x1, .int (nI 6)] w) (fun v w9 => mX (d + 1) 36 448 [.ref a0, mJ] (v.toList ++ []) w9) := by
  refine Eq.trans (X_st f_36_441 rfl rfl) ?_
  refine Eq.trans (X_st f_36_442 rfl rfl) ?_
  refine Eq.trans (X_bipush f_36_443 kc_b_6) ?_
  refine Eq.trans (X_call f_36_445 (by decide) rfl rfl rfl rfl rfl rfl (Nat.le_of_ble_eq_true rfl) (Nat.le_of_ble_eq_true rfl) (decide_eq_true h0) (Nat.le_of_ble_eq_true rfl)) ?_
  exact mThen_eq fun v w9 => mX_maskK lm_36_448 rfl
theorem b_36_448 {d : Nat} {a0 : Nat} {y0 : Int32} {w : MW} : mX d 36 448 [.ref a0, mJ] [.int y0] w = (if y0 = nI 0 then mX d 36 492 [mJ, mJ] [] w else mX d 36 451 [.ref a0, mJ] [] w) := by
  refine Eq.trans (X_br f_36_448 rfl rfl) ?_
  exact mIte_eq (mX_maskK lm_36_492 rfl) (mX_maskK lm_36_451 rfl)
theorem b_36_451 {d : Nat} {a0 : Nat} {w : MW} (h0 : mTg w a0 = 2) : mX (d + 1) 36 451 [.ref a0, mJ] [] w = mThen (mK d 35 [.ref a0, .int (nI 258), .int (nI 11)] w) (fun v w9 => mX (d + 1) 36 460 [.ref a0, mJ] (v.toList ++ []) w9) := by
  refine Eq.trans (X_st f_36_451 rfl rfl) ?_
  refine Eq.trans (X_sipush f_36_452 kc_s_258) ?_
  refine Eq.trans (X_bipush f_36_455 kc_b_11) ?_
  refine Eq.trans (X_call f_36_457 (by decide) rfl rfl rfl rfl rfl rfl (Nat.le_of_ble_eq_true rfl) (Nat.le_of_ble_eq_true rfl) (decide_eq_true h0) (Nat.le_of_ble_eq_true rfl)) ?_
  exact mThen_eq fun v w9 => mX_maskK lm_36_460 rfl
theorem b_36_460 {d : Nat} {a0 : Nat} {y0 : Int32} {w : MW} : mX d 36 460 [.ref a0, mJ] [.int y0] w = (if y0 = nI 0 then mX d 36 492 [mJ, mJ] [] w else mX d 36 463 [.ref a0, mJ] [] w) := by
  refine Eq.trans (X_br f_36_460 rfl rfl) ?_
  exact mIte_eq (mX_maskK lm_36_492 rfl) (mX_maskK lm_36_463 rfl)
theorem b_36_463 {d : Nat} {a0 : Nat} {w : MW} (h0 : mTg w a0 = 2) : mX (d + 1) 36 463 [.ref a0, mJ] [] w = mThen (mK d 35 [.ref a0, .int (nI 18), .int (nI 0)] w) (fun v w9 => mX (d + 1) 36 470 [.ref a0, mJ] (v.toList ++ []) w9) := by
  refine Eq.trans (X_st f_36_463 rfl rfl) ?_
  refine Eq.trans (X_bipush f_36_464 kc_b_18) ?_
  refine Eq.trans (X_iconst f_36_466 kc_i_0) ?_
  refine Eq.trans (X_call f_36_467 (by decide) rfl rfl rfl rfl rfl rfl (Nat.le_of_ble_eq_true rfl) (Nat.le_of_ble_eq_true rfl) (decide_eq_true h0) (Nat.le_of_ble_eq_true rfl)) ?_
  exact mThen_eq fun v w9 => mX_maskK lm_36_470 rfl
theorem b_36_470 {d : Nat} {a0 : Nat} {y0 : Int32} {w : MW} : mX d 36 470 [.ref a0, mJ] [.int y0] w = (if y0 = nI 0 then mX d 36 492 [mJ, mJ] [] w else mX d 36 473 [.ref a0, mJ] [] w) := by
  refine Eq.trans (X_br f_36_470 rfl rfl) ?_
  exact mIte_eq (mX_maskK lm_36_492 rfl) (mX_maskK lm_36_473 rfl)
theorem b_36_473 {d : Nat} {a0 : Nat} {w : MW} (h0 : mTg w a0 = 2) : mX (d + 1) 36 473 [.ref a0, mJ] [] w = mThen (mK d 40 [.ref a0, .int (nI 0)] w) (fun v w9 => mX (d + 1) 36 478 [.ref a0, mJ] (v.toList ++ []) w9) := by
  refine Eq.trans (X_st f_36_473 rfl rfl) ?_
  refine Eq.trans (X_iconst f_36_474 kc_i_0) ?_
  refine Eq.trans (X_call f_36_475 (by decide) rfl rfl rfl rfl rfl rfl (Nat.le_of_ble_eq_true rfl) (Nat.le_of_ble_eq_true rfl) (decide_eq_true h0) (Nat.le_of_ble_eq_true rfl)) ?_
  exact mThen_eq fun v w9 => mX_maskK lm_36_478 rfl
theorem b_36_478 {d : Nat} {a0 : Nat} {y0 : Int32} {w : MW} : mX d 36 478 [.ref a0, mJ] [.int y0] w = (if y0 = nI 0 then mX d 36 492 [mJ, mJ] [] w else mX d 36 481 [.ref a0, mJ] [] w) := by
  refine Eq.trans (X_br f_36_478 rfl rfl) ?_
  exact mIte_eq (mX_maskK lm_36_492 rfl) (mX_maskK lm_36_481 rfl)
theorem b_36_481 {d : Nat} {a0 : Nat} {w : MW} (h0 : mTg w a0 = 2) : mX (d + 1) 36 481 [.ref a0, mJ] [] w = mThen (mK d 39 [.ref a0] w) (fun v w9 => mX (d + 1) 36 485 [mJ, mJ] (v.toList ++ []) w9) := by
  refine Eq.trans (X_st f_36_481 rfl rfl) ?_
  refine Eq.trans (X_call f_36_482 (by decide) rfl rfl rfl rfl rfl rfl (Nat.le_of_ble_eq_true rfl) (Nat.le_of_ble_eq_true rfl) (decide_eq_true h0) (Nat.le_of_ble_eq_true rfl)) ?_
  exact mThen_eq fun v w9 => mX_maskK lm_36_485 rfl
theorem b_36_485 {d : Nat} {y0 : Int32} {w : MW} : mX d 36 485 [mJ, mJ] [.int y0] w = (if y0 = nI 0 then mX d 36 492 [mJ, mJ] [] w else mX d 36 488 [mJ, mJ] [] w) := by
  refine Eq.trans (X_br f_36_485 rfl rfl) ?_
  exact mIte_eq (mX_maskK lm_36_492 rfl) (mX_maskK lm_36_488 rfl)
theorem b_36_488 {d : Nat} {w : MW} : mX d 36 488 [mJ, mJ] [] w = mX d 36 493 [mJ, mJ] [.int (nI 1)] w := by
  refine Eq.trans (X_iconst f_36_488 kc_i_1) ?_
  refine Eq.trans (X_st f_36_489 rfl rfl) ?_
  exact mX_maskK lm_36_493 rfl
theorem b_36_492 {d : Nat} {w : MW} : mX d 36 492 [mJ, mJ] [] w = mX d 36 493 [mJ, mJ] [.int (nI 0)] w := by
  refine Eq.trans (X_iconst f_36_492 kc_i_0) ?_
  exact mX_maskK lm_36_493 rfl
theorem b_36_493 {d : Nat} {y0 : Int32} {w : MW} (h0 : mRk 2 y0 = true) : mX d 36 493 [mJ, mJ] [.int y0] w = some (.inl (some (.int y0)), w) := by
  exact X_ireturn f_36_493 h0
theorem b_36_494 {d : Nat} {w : MW} : mX d 36 494 [mJ, mJ] [] w = some (.inl (some (.int (nI 0))), w) := by
  refine Eq.trans (X_iconst f_36_494 kc_i_0) ?_
  exact X_ireturn f_36_495 rfl
/-! BeeTurnpike$Grammar takeNames (I)Z -/
theorem f_37_0 : mFetch 37 0 = some (.aload_n 0, 1, []) := by decide +kernel
theorem f_37_1 : mFetch 37 1 = some (.sipush 258, 3, []) := by decide +kernel
theorem f_37_4 : mFetch 37 4 = some (.iload_n 1, 1, []) := by decide +kernel
theorem f_37_5 : mFetch 37 5 = some (.invokevirtual 45, 3, [35, 3, 2, 2, 1179, 1181, 40]) := by decide +kernel
theorem f_37_8 : mFetch 37 8 = some (.istore_n 2, 1, []) := by decide +kernel
theorem f_37_9 : mFetch 37 9 = some (.iconst 0, 1, []) := by decide +kernel
theorem f_37_10 : mFetch 37 10 = some (.istore_n 3, 1, []) := by decide +kernel
theorem f_37_11 : mFetch 37 11 = some (.iload_n 3, 1, []) := by decide +kernel
theorem f_37_12 : mFetch 37 12 = some (.sipush 400, 3, []) := by decide +kernel
theorem f_37_15 : mFetch 37 15 = some (.if_icmp .ge 28, 3, [43]) := by decide +kernel
theorem f_37_18 : mFetch 37 18 = some (.aload_n 0, 1, []) := by decide +kernel
theorem f_37_19 : mFetch 37 19 = some (.getfield 33, 3, [2, 3, 0, 276]) := by decide +kernel
theorem f_37_22 : mFetch 37 22 = some (.sipush 258, 3, []) := by decide +kernel
theorem f_37_25 : mFetch 37 25 = some (.if_icmp .ne 18, 3, [43]) := by decide +kernel
theorem f_37_28 : mFetch 37 28 = some (.aload_n 0, 1, []) := by decide +kernel
theorem f_37_29 : mFetch 37 29 = some (.sipush 258, 3, []) := by decide +kernel
theorem f_37_32 : mFetch 37 32 = some (.iload_n 1, 1, []) := by decide +kernel
theorem f_37_33 : mFetch 37 33 = some (.invokevirtual 45, 3, [35, 3, 2, 2, 1179, 1181, 40]) := by decide +kernel
theorem f_37_36 : mFetch 37 36 = some (.pop, 1, []) := by decide +kernel
theorem f_37_37 : mFetch 37 37 = some (.iinc 3 1, 3, []) := by decide +kernel
theorem f_37_40 : mFetch 37 40 = some (.goto (-29), 3, [11]) := by decide +kernel
theorem f_37_43 : mFetch 37 43 = some (.iload_n 2, 1, []) := by decide +kernel
theorem f_37_44 : mFetch 37 44 = some (.ireturn, 1, [2]) := by decide +kernel
theorem b_37_0 {d : Nat} {a0 : Nat} {x1 : Int32} {w : MW} (h0 : mTg w a0 = 2) : mX (d + 1) 37 0 [.ref a0, .int x1, mJ, mJ] [] w = mThen (mK d 35 [.ref a0, .int (nI 258), .int x1] w) (fun v w9 => mX (d + 1) 37 8 [.ref a0, .int x1, mJ, mJ] (v.toList ++ []) w9) := by
  refine Eq.trans (X_st f_37_0 rfl rfl) ?_
  refine Eq.trans (X_sipush f_37_1 kc_s_258) ?_
  refine Eq.trans (X_st f_37_4 rfl rfl) ?_
  refine Eq.trans (X_call f_37_5 (by decide) rfl rfl rfl rfl rfl rfl (Nat.le_of_ble_eq_true rfl) (Nat.le_of_ble_eq_true rfl) (decide_eq_true h0) (Nat.le_of_ble_eq_true rfl)) ?_
  exact mThen_eq fun v w9 => mX_mask rfl
theorem e_37 {d : Nat} {a0 : Nat} {x1 : Int32} {w : MW} : mK d 37 [.ref a0, .int x1] w = mX d 37 0 [.ref a0, .int x1, mJ, mJ] [] w := rfl
theorem b_37_8 {d : Nat} {a0 : Nat} {x1 : Int32} {y0 : Int32} {w : MW} : mX d 37 8 [.ref a0, .int x1, mJ, mJ] [.int y0] w = mX d 37 11 [.ref a0, .int x1, .int y0, .int (nI 0)] [] w := by
  refine Eq.trans (X_istore_n (L' := [.ref a0, .int x1, .int y0, mJ]) f_37_8 (Nat.le_of_ble_eq_true rfl) rfl) ?_
  refine Eq.trans (X_iconst f_37_9 kc_i_0) ?_
  refine Eq.trans (X_istore_n (L' := [.ref a0, .int x1, .int y0, .int (nI 0)]) f_37_10 (Nat.le_of_ble_eq_true rfl) rfl) ?_
  exact mX_mask rfl
theorem b_37_11 {d : Nat} {a0 : Nat} {x1 : Int32} {x2 : Int32} {x3 : Int32} {w : MW} : mX d 37 11 [.ref a0, .int x1, .int x2, .int x3] [] w = (if (nI 400) ≤ x3 then mX d 37 43 [mJ, mJ, .int x2, mJ] [] w else mX d 37 18 [.ref a0, .int x1, .int x2, .int x3] [] w) := by
  refine Eq.trans (X_st f_37_11 rfl rfl) ?_
  refine Eq.trans (X_sipush f_37_12 kc_s_400) ?_
  refine Eq.trans (X_br f_37_15 rfl rfl) ?_
  exact mIte_eq (mX_mask rfl) (mX_mask rfl)
theorem b_37_18 {d : Nat} {a0 : Nat} {x1 : Int32} {x2 : Int32} {x3 : Int32} {w : MW} (h0 : mTg w a0 = 2) : mX d 37 18 [.ref a0, .int x1, .int x2, .int x3] [] w = (if ¬ (mI w a0 3) = (nI 258) then mX d 37 43 [mJ, mJ, .int x2, mJ] [] w else mX d 37 28 [.ref a0, .int x1, .int x2, .int x3] [] w) := by
  refine Eq.trans (X_st f_37_18 rfl rfl) ?_
  refine Eq.trans (X_getI f_37_19 h0 rfl) ?_
  refine Eq.trans (X_sipush f_37_22 kc_s_258) ?_
  refine Eq.trans (X_br f_37_25 rfl rfl) ?_
  exact mIte_eq (mX_mask rfl) (mX_mask rfl)
theorem b_37_28 {d : Nat} {a0 : Nat} {x1 : Int32} {x2 : Int32} {x3 : Int32} {w : MW} (h0 : mTg w a0 = 2) : mX (d + 1) 37 28 [.ref a0, .int x1, .int x2, .int x3] [] w = mThen (mK d 35 [.ref a0, .int (nI 258), .int x1] w) (fun v w9 => mX (d + 1) 37 36 [.ref a0, .int x1, .int x2, .int x3] (v.toList ++ []) w9) := by
  refine Eq.trans (X_st f_37_28 rfl rfl) ?_
  refine Eq.trans (X_sipush f_37_29 kc_s_258) ?_
  refine Eq.trans (X_st f_37_32 rfl rfl) ?_
  refine Eq.trans (X_call f_37_33 (by decide) rfl rfl rfl rfl rfl rfl (Nat.le_of_ble_eq_true rfl) (Nat.le_of_ble_eq_true rfl) (decide_eq_true h0) (Nat.le_of_ble_eq_true rfl)) ?_
  exact mThen_eq fun v w9 => mX_mask rfl
theorem b_37_36 {d : Nat} {a0 : Nat} {x1 : Int32} {x2 : Int32} {x3 : Int32} {y0 : Int32} {w : MW} : mX d 37 36 [.ref a0, .int x1, .int x2, .int x3] [.int y0] w = mX d 37 11 [.ref a0, .int x1, .int x2, .int (x3 + (nI 1))] [] w := by
  refine Eq.trans (X_pop f_37_36 rfl) ?_
  refine Eq.trans (X_iinc f_37_37 kc_i_1 rfl rfl) ?_
  refine Eq.trans (X_st f_37_40 rfl rfl) ?_
  exact mX_mask rfl
theorem b_37_43 {d : Nat} {x2 : Int32} {w : MW} (h0 : mRk 2 x2 = true) : mX d 37 43 [mJ, mJ, .int x2, mJ] [] w = some (.inl (some (.int x2)), w) := by
  refine Eq.trans (X_st f_37_43 rfl rfl) ?_
  exact X_ireturn f_37_44 h0
/-! BeeTurnpike$Grammar takeKnowledge ()Z -/
theorem f_38_0 : mFetch 38 0 = some (.iconst 0, 1, []) := by decide +kernel
theorem f_38_1 : mFetch 38 1 = some (.istore_n 1, 1, []) := by decide +kernel
theorem f_38_2 : mFetch 38 2 = some (.iload_n 1, 1, []) := by decide +kernel
theorem f_38_3 : mFetch 38 3 = some (.sipush 400, 3, []) := by decide +kernel
theorem f_38_6 : mFetch 38 6 = some (.if_icmp .ge 45, 3, [51]) := by decide +kernel
theorem f_38_9 : mFetch 38 9 = some (.aload_n 0, 1, []) := by decide +kernel
theorem f_38_10 : mFetch 38 10 = some (.bipush 10, 2, []) := by decide +kernel
theorem f_38_12 : mFetch 38 12 = some (.iconst 0, 1, []) := by decide +kernel
theorem f_38_13 : mFetch 38 13 = some (.invokevirtual 45, 3, [35, 3, 2, 2, 1179, 1181, 40]) := by decide +kernel
theorem f_38_16 : mFetch 38 16 = some (.ifCond .eq 35, 3, [51]) := by decide +kernel
theorem f_38_19 : mFetch 38 19 = some (.aload_n 0, 1, []) := by decide +kernel
theorem f_38_20 : mFetch 38 20 = some (.sipush 258, 3, []) := by decide +kernel
theorem f_38_23 : mFetch 38 23 = some (.bipush 8, 2, []) := by decide +kernel
theorem f_38_25 : mFetch 38 25 = some (.invokevirtual 45, 3, [35, 3, 2, 2, 1179, 1181, 40]) := by decide +kernel
theorem f_38_28 : mFetch 38 28 = some (.ifCond .eq 15, 3, [43]) := by decide +kernel
theorem f_38_31 : mFetch 38 31 = some (.aload_n 0, 1, []) := by decide +kernel
theorem f_38_32 : mFetch 38 32 = some (.sipush 259, 3, []) := by decide +kernel
theorem f_38_35 : mFetch 38 35 = some (.bipush 18, 2, []) := by decide +kernel
theorem f_38_37 : mFetch 38 37 = some (.invokevirtual 45, 3, [35, 3, 2, 2, 1179, 1181, 40]) := by decide +kernel
theorem f_38_40 : mFetch 38 40 = some (.ifCond .ne 5, 3, [45]) := by decide +kernel
theorem f_38_43 : mFetch 38 43 = some (.iconst 0, 1, []) := by decide +kernel
theorem f_38_44 : mFetch 38 44 = some (.ireturn, 1, [2]) := by decide +kernel
theorem f_38_45 : mFetch 38 45 = some (.iinc 1 1, 3, []) := by decide +kernel
theorem f_38_48 : mFetch 38 48 = some (.goto (-46), 3, [2]) := by decide +kernel
theorem f_38_51 : mFetch 38 51 = some (.iconst 1, 1, []) := by decide +kernel
theorem f_38_52 : mFetch 38 52 = some (.ireturn, 1, [2]) := by decide +kernel
theorem b_38_0 {d : Nat} {a0 : Nat} {w : MW} : mX d 38 0 [.ref a0, mJ] [] w = mX d 38 2 [.ref a0, .int (nI 0)] [] w := by
  refine Eq.trans (X_iconst f_38_0 kc_i_0) ?_
  refine Eq.trans (X_istore_n (L' := [.ref a0, .int (nI 0)]) f_38_1 (Nat.le_of_ble_eq_true rfl) rfl) ?_
  exact mX_mask rfl
theorem e_38 {d : Nat} {a0 : Nat} {w : MW} : mK d 38 [.ref a0] w = mX d 38 0 [.ref a0, mJ] [] w := rfl
theorem b_38_2 {d : Nat} {a0 : Nat} {x1 : Int32} {w : MW} : mX d 38 2 [.ref a0, .int x1] [] w = (if (nI 400) ≤ x1 then mX d 38 51 [mJ, mJ] [] w else mX d 38 9 [.ref a0, .int x1] [] w) := by
  refine Eq.trans (X_st f_38_2 rfl rfl) ?_
  refine Eq.trans (X_sipush f_38_3 kc_s_400) ?_
  refine Eq.trans (X_br f_38_6 rfl rfl) ?_
  exact mIte_eq (mX_mask rfl) (mX_mask rfl)
theorem b_38_9 {d : Nat} {a0 : Nat} {x1 : Int32} {w : MW} (h0 : mTg w a0 = 2) : mX (d + 1) 38 9 [.ref a0, .int x1] [] w = mThen (mK d 35 [.ref a0, .int (nI 10), .int (nI 0)] w) (fun v w9 => mX (d + 1) 38 16 [.ref a0, .int x1] (v.toList ++ []) w9) := by
  refine Eq.trans (X_st f_38_9 rfl rfl) ?_
  refine Eq.trans (X_bipush f_38_10 kc_b_10) ?_
  refine Eq.trans (X_iconst f_38_12 kc_i_0) ?_
  refine Eq.trans (X_call f_38_13 (by decide) rfl rfl rfl rfl rfl rfl (Nat.le_of_ble_eq_true rfl) (Nat.le_of_ble_eq_true rfl) (decide_eq_true h0) (Nat.le_of_ble_eq_true rfl)) ?_
  exact mThen_eq fun v w9 => mX_mask rfl
theorem b_38_16 {d : Nat} {a0 : Nat} {x1 : Int32} {y0 : Int32} {w : MW} : mX d 38 16 [.ref a0, .int x1] [.int y0] w = (if y0 = nI 0 then mX d 38 51 [mJ, mJ] [] w else mX d 38 19 [.ref a0, .int x1] [] w) := by
  refine Eq.trans (X_br f_38_16 rfl rfl) ?_
  exact mIte_eq (mX_mask rfl) (mX_mask rfl)
theorem b_38_19 {d : Nat} {a0 : Nat} {x1 : Int32} {w : MW} (h0 : mTg w a0 = 2) : mX (d + 1) 38 19 [.ref a0, .int x1] [] w = mThen (mK d 35 [.ref a0, .int (nI 258), .int (nI 8)] w) (fun v w9 => mX (d + 1) 38 28 [.ref a0, .int x1] (v.toList ++ []) w9) := by
  refine Eq.trans (X_st f_38_19 rfl rfl) ?_
  refine Eq.trans (X_sipush f_38_20 kc_s_258) ?_
  refine Eq.trans (X_bipush f_38_23 kc_b_8) ?_
  refine Eq.trans (X_call f_38_25 (by decide) rfl rfl rfl rfl rfl rfl (Nat.le_of_ble_eq_true rfl) (Nat.le_of_ble_eq_true rfl) (decide_eq_true h0) (Nat.le_of_ble_eq_true rfl)) ?_
  exact mThen_eq fun v w9 => mX_mask rfl
theorem b_38_28 {d : Nat} {a0 : Nat} {x1 : Int32} {y0 : Int32} {w : MW} : mX d 38 28 [.ref a0, .int x1] [.int y0] w = (if y0 = nI 0 then mX d 38 43 [mJ, mJ] [] w else mX d 38 31 [.ref a0, .int x1] [] w) := by
  refine Eq.trans (X_br f_38_28 rfl rfl) ?_
  exact mIte_eq (mX_mask rfl) (mX_mask rfl)
theorem b_38_31 {d : Nat} {a0 : Nat} {x1 : Int32} {w : MW} (h0 : mTg w a0 = 2) : mX (d + 1) 38 31 [.ref a0, .int x1] [] w = mThen (mK d 35 [.ref a0, .int (nI 259), .int (nI 18)] w) (fun v w9 => mX (d + 1) 38 40 [.ref a0, .int x1] (v.toList ++ []) w9) := by
  refine Eq.trans (X_st f_38_31 rfl rfl) ?_
  refine Eq.trans (X_sipush f_38_32 kc_s_259) ?_
  refine Eq.trans (X_bipush f_38_35 kc_b_18) ?_
  refine Eq.trans (X_call f_38_37 (by decide) rfl rfl rfl rfl rfl rfl (Nat.le_of_ble_eq_true rfl) (Nat.le_of_ble_eq_true rfl) (decide_eq_true h0) (Nat.le_of_ble_eq_true rfl)) ?_
  exact mThen_eq fun v w9 => mX_mask rfl
theorem b_38_40 {d : Nat} {a0 : Nat} {x1 : Int32} {y0 : Int32} {w : MW} : mX d 38 40 [.ref a0, .int x1] [.int y0] w = (if ¬ y0 = nI 0 then mX d 38 45 [.ref a0, .int x1] [] w else mX d 38 43 [mJ, mJ] [] w) := by
  refine Eq.trans (X_br f_38_40 rfl rfl) ?_
  exact mIte_eq (mX_mask rfl) (mX_mask rfl)
theorem b_38_43 {d : Nat} {w : MW} : mX d 38 43 [mJ, mJ] [] w = some (.inl (some (.int (nI 0))), w) := by
  refine Eq.trans (X_iconst f_38_43 kc_i_0) ?_
  exact X_ireturn f_38_44 rfl
theorem b_38_45 {d : Nat} {a0 : Nat} {x1 : Int32} {w : MW} : mX d 38 45 [.ref a0, .int x1] [] w = mX d 38 2 [.ref a0, .int (x1 + (nI 1))] [] w := by
  refine Eq.trans (X_iinc f_38_45 kc_i_1 rfl rfl) ?_
  refine Eq.trans (X_st f_38_48 rfl rfl) ?_
  exact mX_mask rfl
theorem b_38_51 {d : Nat} {w : MW} : mX d 38 51 [mJ, mJ] [] w = some (.inl (some (.int (nI 1))), w) := by
  refine Eq.trans (X_iconst f_38_51 kc_i_1) ?_
  exact X_ireturn f_38_52 rfl
/-! BeeTurnpike$Grammar endTest ()Z -/
theorem f_39_0 : mFetch 39 0 = some (.aload_n 0, 1, []) := by decide +kernel
theorem f_39_1 : mFetch 39 1 = some (.getfield 15, 3, [2, 1, 0, 274]) := by decide +kernel
theorem f_39_4 : mFetch 39 4 = some (.bipush 59, 2, []) := by decide +kernel
theorem f_39_6 : mFetch 39 6 = some (.aload_n 0, 1, []) := by decide +kernel
theorem f_39_7 : mFetch 39 7 = some (.getfield 19, 3, [2, 2, 0, 275]) := by decide +kernel
theorem f_39_10 : mFetch 39 10 = some (.invokevirtual 72, 3, [30, 3, 2, 1, 1204, 1205, 1206]) := by decide +kernel
theorem f_39_13 : mFetch 39 13 = some (.iconst 1, 1, []) := by decide +kernel
theorem f_39_14 : mFetch 39 14 = some (.ireturn, 1, [2]) := by decide +kernel
theorem b_39_0 {d : Nat} {a0 : Nat} {w : MW} (h0 : mTg w a0 = 2) (h1 : mR w a0 1 = some (gR w a0 1)) (h2 : mTg w (gR w a0 1) = 1) : mX (d + 1) 39 0 [.ref a0] [] w = mThen (mK d 30 [.ref (gR w a0 1), .int (nI 59), .int (mI w a0 2)] w) (fun v w9 => mX (d + 1) 39 13 [mJ] (v.toList ++ []) w9) := by
  refine Eq.trans (X_st f_39_0 rfl rfl) ?_
  refine Eq.trans (X_getR f_39_1 h0 rfl h1) ?_
  refine Eq.trans (X_bipush f_39_4 kc_b_59) ?_
  refine Eq.trans (X_st f_39_6 rfl rfl) ?_
  refine Eq.trans (X_getI f_39_7 h0 rfl) ?_
  refine Eq.trans (X_call f_39_10 (by decide) rfl rfl rfl rfl rfl rfl (Nat.le_of_ble_eq_true rfl) (Nat.le_of_ble_eq_true rfl) (decide_eq_true h2) (Nat.le_of_ble_eq_true rfl)) ?_
  exact mThen_eq fun v w9 => mX_mask rfl
theorem e_39 {d : Nat} {a0 : Nat} {w : MW} : mK d 39 [.ref a0] w = mX d 39 0 [.ref a0] [] w := rfl
theorem b_39_13 {d : Nat} {w : MW} : mX d 39 13 [mJ] [] w = some (.inl (some (.int (nI 1))), w) := by
  refine Eq.trans (X_iconst f_39_13 kc_i_1) ?_
  exact X_ireturn f_39_14 rfl
/-! BeeTurnpike$Grammar readTest (I)Z -/
theorem f_40_0 : mFetch 40 0 = some (.aload_n 0, 1, []) := by decide +kernel
theorem f_40_1 : mFetch 40 1 = some (.iload_n 1, 1, []) := by decide +kernel
theorem f_40_2 : mFetch 40 2 = some (.invokevirtual 76, 3, [41, 2, 2, 2, 1196, 1198, 44]) := by decide +kernel
theorem f_40_5 : mFetch 40 5 = some (.ifCond .ne 5, 3, [10]) := by decide +kernel
theorem f_40_8 : mFetch 40 8 = some (.iconst 0, 1, []) := by decide +kernel
theorem f_40_9 : mFetch 40 9 = some (.ireturn, 1, [2]) := by decide +kernel
theorem f_40_10 : mFetch 40 10 = some (.iconst 0, 1, []) := by decide +kernel
theorem f_40_11 : mFetch 40 11 = some (.istore_n 2, 1, []) := by decide +kernel
theorem f_40_12 : mFetch 40 12 = some (.iload_n 2, 1, []) := by decide +kernel
theorem f_40_13 : mFetch 40 13 = some (.sipush 400, 3, []) := by decide +kernel
theorem f_40_16 : mFetch 40 16 = some (.if_icmp .ge 42, 3, [58]) := by decide +kernel
theorem f_40_19 : mFetch 40 19 = some (.aload_n 0, 1, []) := by decide +kernel
theorem f_40_20 : mFetch 40 20 = some (.bipush 28, 2, []) := by decide +kernel
theorem f_40_22 : mFetch 40 22 = some (.iconst 0, 1, []) := by decide +kernel
theorem f_40_23 : mFetch 40 23 = some (.invokevirtual 45, 3, [35, 3, 2, 2, 1179, 1181, 40]) := by decide +kernel
theorem f_40_26 : mFetch 40 26 = some (.ifCond .eq 32, 3, [58]) := by decide +kernel
theorem f_40_29 : mFetch 40 29 = some (.aload_n 0, 1, []) := by decide +kernel
theorem f_40_30 : mFetch 40 30 = some (.iload_n 1, 1, []) := by decide +kernel
theorem f_40_31 : mFetch 40 31 = some (.invokevirtual 76, 3, [41, 2, 2, 2, 1196, 1198, 44]) := by decide +kernel
theorem f_40_34 : mFetch 40 34 = some (.ifCond .ne 5, 3, [39]) := by decide +kernel
theorem f_40_37 : mFetch 40 37 = some (.iconst 0, 1, []) := by decide +kernel
theorem f_40_38 : mFetch 40 38 = some (.ireturn, 1, [2]) := by decide +kernel
theorem f_40_39 : mFetch 40 39 = some (.aload_n 0, 1, []) := by decide +kernel
theorem f_40_40 : mFetch 40 40 = some (.getfield 15, 3, [2, 1, 0, 274]) := by decide +kernel
theorem f_40_43 : mFetch 40 43 = some (.bipush 28, 2, []) := by decide +kernel
theorem f_40_45 : mFetch 40 45 = some (.aload_n 0, 1, []) := by decide +kernel
theorem f_40_46 : mFetch 40 46 = some (.getfield 19, 3, [2, 2, 0, 275]) := by decide +kernel
theorem f_40_49 : mFetch 40 49 = some (.invokevirtual 72, 3, [30, 3, 2, 1, 1204, 1205, 1206]) := by decide +kernel
theorem f_40_52 : mFetch 40 52 = some (.iinc 2 1, 3, []) := by decide +kernel
theorem f_40_55 : mFetch 40 55 = some (.goto (-43), 3, [12]) := by decide +kernel
theorem f_40_58 : mFetch 40 58 = some (.iconst 1, 1, []) := by decide +kernel
theorem f_40_59 : mFetch 40 59 = some (.ireturn, 1, [2]) := by decide +kernel
theorem b_40_0 {d : Nat} {a0 : Nat} {x1 : Int32} {w : MW} (h0 : mTg w a0 = 2) : mX (d + 1) 40 0 [.ref a0, .int x1, mJ] [] w = mThen (mK d 41 [.ref a0, .int x1] w) (fun v w9 => mX (d + 1) 40 5 [.ref a0, .int x1, mJ] (v.toList ++ []) w9) := by
  refine Eq.trans (X_st f_40_0 rfl rfl) ?_
  refine Eq.trans (X_st f_40_1 rfl rfl) ?_
  refine Eq.trans (X_call f_40_2 (by decide) rfl rfl rfl rfl rfl rfl (Nat.le_of_ble_eq_true rfl) (Nat.le_of_ble_eq_true rfl) (decide_eq_true h0) (Nat.le_of_ble_eq_true rfl)) ?_
  exact mThen_eq fun v w9 => mX_mask rfl
theorem e_40 {d : Nat} {a0 : Nat} {x1 : Int32} {w : MW} : mK d 40 [.ref a0, .int x1] w = mX d 40 0 [.ref a0, .int x1, mJ] [] w := rfl
theorem b_40_5 {d : Nat} {a0 : Nat} {x1 : Int32} {y0 : Int32} {w : MW} : mX d 40 5 [.ref a0, .int x1, mJ] [.int y0] w = (if ¬ y0 = nI 0 then mX d 40 10 [.ref a0, .int x1, mJ] [] w else mX d 40 8 [mJ, mJ, mJ] [] w) := by
  refine Eq.trans (X_br f_40_5 rfl rfl) ?_
  exact mIte_eq (mX_mask rfl) (mX_mask rfl)
theorem b_40_8 {d : Nat} {w : MW} : mX d 40 8 [mJ, mJ, mJ] [] w = some (.inl (some (.int (nI 0))), w) := by
  refine Eq.trans (X_iconst f_40_8 kc_i_0) ?_
  exact X_ireturn f_40_9 rfl
theorem b_40_10 {d : Nat} {a0 : Nat} {x1 : Int32} {w : MW} : mX d 40 10 [.ref a0, .int x1, mJ] [] w = mX d 40 12 [.ref a0, .int x1, .int (nI 0)] [] w := by
  refine Eq.trans (X_iconst f_40_10 kc_i_0) ?_
  refine Eq.trans (X_istore_n (L' := [.ref a0, .int x1, .int (nI 0)]) f_40_11 (Nat.le_of_ble_eq_true rfl) rfl) ?_
  exact mX_mask rfl
theorem b_40_12 {d : Nat} {a0 : Nat} {x1 : Int32} {x2 : Int32} {w : MW} : mX d 40 12 [.ref a0, .int x1, .int x2] [] w = (if (nI 400) ≤ x2 then mX d 40 58 [mJ, mJ, mJ] [] w else mX d 40 19 [.ref a0, .int x1, .int x2] [] w) := by
  refine Eq.trans (X_st f_40_12 rfl rfl) ?_
  refine Eq.trans (X_sipush f_40_13 kc_s_400) ?_
  refine Eq.trans (X_br f_40_16 rfl rfl) ?_
  exact mIte_eq (mX_mask rfl) (mX_mask rfl)
theorem b_40_19 {d : Nat} {a0 : Nat} {x1 : Int32} {x2 : Int32} {w : MW} (h0 : mTg w a0 = 2) : mX (d + 1) 40 19 [.ref a0, .int x1, .int x2] [] w = mThen (mK d 35 [.ref a0, .int (nI 28), .int (nI 0)] w) (fun v w9 => mX (d + 1) 40 26 [.ref a0, .int x1, .int x2] (v.toList ++ []) w9) := by
  refine Eq.trans (X_st f_40_19 rfl rfl) ?_
  refine Eq.trans (X_bipush f_40_20 kc_b_28) ?_
  refine Eq.trans (X_iconst f_40_22 kc_i_0) ?_
  refine Eq.trans (X_call f_40_23 (by decide) rfl rfl rfl rfl rfl rfl (Nat.le_of_ble_eq_true rfl) (Nat.le_of_ble_eq_true rfl) (decide_eq_true h0) (Nat.le_of_ble_eq_true rfl)) ?_
  exact mThen_eq fun v w9 => mX_mask rfl
theorem b_40_26 {d : Nat} {a0 : Nat} {x1 : Int32} {x2 : Int32} {y0 : Int32} {w : MW} : mX d 40 26 [.ref a0, .int x1, .int x2] [.int y0] w = (if y0 = nI 0 then mX d 40 58 [mJ, mJ, mJ] [] w else mX d 40 29 [.ref a0, .int x1, .int x2] [] w) := by
  refine Eq.trans (X_br f_40_26 rfl rfl) ?_
  exact mIte_eq (mX_mask rfl) (mX_mask rfl)
theorem b_40_29 {d : Nat} {a0 : Nat} {x1 : Int32} {x2 : Int32} {w : MW} (h0 : mTg w a0 = 2) : mX (d + 1) 40 29 [.ref a0, .int x1, .int x2] [] w = mThen (mK d 41 [.ref a0, .int x1] w) (fun v w9 => mX (d + 1) 40 34 [.ref a0, .int x1, .int x2] (v.toList ++ []) w9) := by
  refine Eq.trans (X_st f_40_29 rfl rfl) ?_
  refine Eq.trans (X_st f_40_30 rfl rfl) ?_
  refine Eq.trans (X_call f_40_31 (by decide) rfl rfl rfl rfl rfl rfl (Nat.le_of_ble_eq_true rfl) (Nat.le_of_ble_eq_true rfl) (decide_eq_true h0) (Nat.le_of_ble_eq_true rfl)) ?_
  exact mThen_eq fun v w9 => mX_mask rfl
theorem b_40_34 {d : Nat} {a0 : Nat} {x1 : Int32} {x2 : Int32} {y0 : Int32} {w : MW} : mX d 40 34 [.ref a0, .int x1, .int x2] [.int y0] w = (if ¬ y0 = nI 0 then mX d 40 39 [.ref a0, .int x1, .int x2] [] w else mX d 40 37 [mJ, mJ, mJ] [] w) := by
  refine Eq.trans (X_br f_40_34 rfl rfl) ?_
  exact mIte_eq (mX_mask rfl) (mX_mask rfl)
theorem b_40_37 {d : Nat} {w : MW} : mX d 40 37 [mJ, mJ, mJ] [] w = some (.inl (some (.int (nI 0))), w) := by
  refine Eq.trans (X_iconst f_40_37 kc_i_0) ?_
  exact X_ireturn f_40_38 rfl
theorem b_40_39 {d : Nat} {a0 : Nat} {x1 : Int32} {x2 : Int32} {w : MW} (h0 : mTg w a0 = 2) (h1 : mR w a0 1 = some (gR w a0 1)) (h2 : mTg w (gR w a0 1) = 1) : mX (d + 1) 40 39 [.ref a0, .int x1, .int x2] [] w = mThen (mK d 30 [.ref (gR w a0 1), .int (nI 28), .int (mI w a0 2)] w) (fun v w9 => mX (d + 1) 40 52 [.ref a0, .int x1, .int x2] (v.toList ++ []) w9) := by
  refine Eq.trans (X_st f_40_39 rfl rfl) ?_
  refine Eq.trans (X_getR f_40_40 h0 rfl h1) ?_
  refine Eq.trans (X_bipush f_40_43 kc_b_28) ?_
  refine Eq.trans (X_st f_40_45 rfl rfl) ?_
  refine Eq.trans (X_getI f_40_46 h0 rfl) ?_
  refine Eq.trans (X_call f_40_49 (by decide) rfl rfl rfl rfl rfl rfl (Nat.le_of_ble_eq_true rfl) (Nat.le_of_ble_eq_true rfl) (decide_eq_true h2) (Nat.le_of_ble_eq_true rfl)) ?_
  exact mThen_eq fun v w9 => mX_mask rfl
theorem b_40_52 {d : Nat} {a0 : Nat} {x1 : Int32} {x2 : Int32} {w : MW} : mX d 40 52 [.ref a0, .int x1, .int x2] [] w = mX d 40 12 [.ref a0, .int x1, .int (x2 + (nI 1))] [] w := by
  refine Eq.trans (X_iinc f_40_52 kc_i_1 rfl rfl) ?_
  refine Eq.trans (X_st f_40_55 rfl rfl) ?_
  exact mX_mask rfl
theorem b_40_58 {d : Nat} {w : MW} : mX d 40 58 [mJ, mJ, mJ] [] w = some (.inl (some (.int (nI 1))), w) := by
  refine Eq.trans (X_iconst f_40_58 kc_i_1) ?_
  exact X_ireturn f_40_59 rfl
/-! BeeTurnpike$Grammar readBoth (I)Z -/
theorem f_41_0 : mFetch 41 0 = some (.aload_n 0, 1, []) := by decide +kernel
theorem f_41_1 : mFetch 41 1 = some (.iload_n 1, 1, []) := by decide +kernel
theorem f_41_2 : mFetch 41 2 = some (.invokevirtual 79, 3, [42, 2, 2, 2, 1200, 1202, 45]) := by decide +kernel
theorem f_41_5 : mFetch 41 5 = some (.ifCond .ne 5, 3, [10]) := by decide +kernel
theorem f_41_8 : mFetch 41 8 = some (.iconst 0, 1, []) := by decide +kernel
theorem f_41_9 : mFetch 41 9 = some (.ireturn, 1, [2]) := by decide +kernel
theorem f_41_10 : mFetch 41 10 = some (.iconst 0, 1, []) := by decide +kernel
theorem f_41_11 : mFetch 41 11 = some (.istore_n 2, 1, []) := by decide +kernel
theorem f_41_12 : mFetch 41 12 = some (.iload_n 2, 1, []) := by decide +kernel
theorem f_41_13 : mFetch 41 13 = some (.sipush 400, 3, []) := by decide +kernel
theorem f_41_16 : mFetch 41 16 = some (.if_icmp .ge 42, 3, [58]) := by decide +kernel
theorem f_41_19 : mFetch 41 19 = some (.aload_n 0, 1, []) := by decide +kernel
theorem f_41_20 : mFetch 41 20 = some (.bipush 27, 2, []) := by decide +kernel
theorem f_41_22 : mFetch 41 22 = some (.iconst 0, 1, []) := by decide +kernel
theorem f_41_23 : mFetch 41 23 = some (.invokevirtual 45, 3, [35, 3, 2, 2, 1179, 1181, 40]) := by decide +kernel
theorem f_41_26 : mFetch 41 26 = some (.ifCond .eq 32, 3, [58]) := by decide +kernel
theorem f_41_29 : mFetch 41 29 = some (.aload_n 0, 1, []) := by decide +kernel
theorem f_41_30 : mFetch 41 30 = some (.iload_n 1, 1, []) := by decide +kernel
theorem f_41_31 : mFetch 41 31 = some (.invokevirtual 79, 3, [42, 2, 2, 2, 1200, 1202, 45]) := by decide +kernel
theorem f_41_34 : mFetch 41 34 = some (.ifCond .ne 5, 3, [39]) := by decide +kernel
theorem f_41_37 : mFetch 41 37 = some (.iconst 0, 1, []) := by decide +kernel
theorem f_41_38 : mFetch 41 38 = some (.ireturn, 1, [2]) := by decide +kernel
theorem f_41_39 : mFetch 41 39 = some (.aload_n 0, 1, []) := by decide +kernel
theorem f_41_40 : mFetch 41 40 = some (.getfield 15, 3, [2, 1, 0, 274]) := by decide +kernel
theorem f_41_43 : mFetch 41 43 = some (.bipush 27, 2, []) := by decide +kernel
theorem f_41_45 : mFetch 41 45 = some (.aload_n 0, 1, []) := by decide +kernel
theorem f_41_46 : mFetch 41 46 = some (.getfield 19, 3, [2, 2, 0, 275]) := by decide +kernel
theorem f_41_49 : mFetch 41 49 = some (.invokevirtual 72, 3, [30, 3, 2, 1, 1204, 1205, 1206]) := by decide +kernel
theorem f_41_52 : mFetch 41 52 = some (.iinc 2 1, 3, []) := by decide +kernel
theorem f_41_55 : mFetch 41 55 = some (.goto (-43), 3, [12]) := by decide +kernel
theorem f_41_58 : mFetch 41 58 = some (.iconst 1, 1, []) := by decide +kernel
theorem f_41_59 : mFetch 41 59 = some (.ireturn, 1, [2]) := by decide +kernel
theorem b_41_0 {d : Nat} {a0 : Nat} {x1 : Int32} {w : MW} (h0 : mTg w a0 = 2) : mX (d + 1) 41 0 [.ref a0, .int x1, mJ] [] w = mThen (mK d 42 [.ref a0, .int x1] w) (fun v w9 => mX (d + 1) 41 5 [.ref a0, .int x1, mJ] (v.toList ++ []) w9) := by
  refine Eq.trans (X_st f_41_0 rfl rfl) ?_
  refine Eq.trans (X_st f_41_1 rfl rfl) ?_
  refine Eq.trans (X_call f_41_2 (by decide) rfl rfl rfl rfl rfl rfl (Nat.le_of_ble_eq_true rfl) (Nat.le_of_ble_eq_true rfl) (decide_eq_true h0) (Nat.le_of_ble_eq_true rfl)) ?_
  exact mThen_eq fun v w9 => mX_mask rfl
theorem e_41 {d : Nat} {a0 : Nat} {x1 : Int32} {w : MW} : mK d 41 [.ref a0, .int x1] w = mX d 41 0 [.ref a0, .int x1, mJ] [] w := rfl
theorem b_41_5 {d : Nat} {a0 : Nat} {x1 : Int32} {y0 : Int32} {w : MW} : mX d 41 5 [.ref a0, .int x1, mJ] [.int y0] w = (if ¬ y0 = nI 0 then mX d 41 10 [.ref a0, .int x1, mJ] [] w else mX d 41 8 [mJ, mJ, mJ] [] w) := by
  refine Eq.trans (X_br f_41_5 rfl rfl) ?_
  exact mIte_eq (mX_mask rfl) (mX_mask rfl)
theorem b_41_8 {d : Nat} {w : MW} : mX d 41 8 [mJ, mJ, mJ] [] w = some (.inl (some (.int (nI 0))), w) := by
  refine Eq.trans (X_iconst f_41_8 kc_i_0) ?_
  exact X_ireturn f_41_9 rfl
theorem b_41_10 {d : Nat} {a0 : Nat} {x1 : Int32} {w : MW} : mX d 41 10 [.ref a0, .int x1, mJ] [] w = mX d 41 12 [.ref a0, .int x1, .int (nI 0)] [] w := by
  refine Eq.trans (X_iconst f_41_10 kc_i_0) ?_
  refine Eq.trans (X_istore_n (L' := [.ref a0, .int x1, .int (nI 0)]) f_41_11 (Nat.le_of_ble_eq_true rfl) rfl) ?_
  exact mX_mask rfl
theorem b_41_12 {d : Nat} {a0 : Nat} {x1 : Int32} {x2 : Int32} {w : MW} : mX d 41 12 [.ref a0, .int x1, .int x2] [] w = (if (nI 400) ≤ x2 then mX d 41 58 [mJ, mJ, mJ] [] w else mX d 41 19 [.ref a0, .int x1, .int x2] [] w) := by
  refine Eq.trans (X_st f_41_12 rfl rfl) ?_
  refine Eq.trans (X_sipush f_41_13 kc_s_400) ?_
  refine Eq.trans (X_br f_41_16 rfl rfl) ?_
  exact mIte_eq (mX_mask rfl) (mX_mask rfl)
theorem b_41_19 {d : Nat} {a0 : Nat} {x1 : Int32} {x2 : Int32} {w : MW} (h0 : mTg w a0 = 2) : mX (d + 1) 41 19 [.ref a0, .int x1, .int x2] [] w = mThen (mK d 35 [.ref a0, .int (nI 27), .int (nI 0)] w) (fun v w9 => mX (d + 1) 41 26 [.ref a0, .int x1, .int x2] (v.toList ++ []) w9) := by
  refine Eq.trans (X_st f_41_19 rfl rfl) ?_
  refine Eq.trans (X_bipush f_41_20 kc_b_27) ?_
  refine Eq.trans (X_iconst f_41_22 kc_i_0) ?_
  refine Eq.trans (X_call f_41_23 (by decide) rfl rfl rfl rfl rfl rfl (Nat.le_of_ble_eq_true rfl) (Nat.le_of_ble_eq_true rfl) (decide_eq_true h0) (Nat.le_of_ble_eq_true rfl)) ?_
  exact mThen_eq fun v w9 => mX_mask rfl
theorem b_41_26 {d : Nat} {a0 : Nat} {x1 : Int32} {x2 : Int32} {y0 : Int32} {w : MW} : mX d 41 26 [.ref a0, .int x1, .int x2] [.int y0] w = (if y0 = nI 0 then mX d 41 58 [mJ, mJ, mJ] [] w else mX d 41 29 [.ref a0, .int x1, .int x2] [] w) := by
  refine Eq.trans (X_br f_41_26 rfl rfl) ?_
  exact mIte_eq (mX_mask rfl) (mX_mask rfl)
theorem b_41_29 {d : Nat} {a0 : Nat} {x1 : Int32} {x2 : Int32} {w : MW} (h0 : mTg w a0 = 2) : mX (d + 1) 41 29 [.ref a0, .int x1, .int x2] [] w = mThen (mK d 42 [.ref a0, .int x1] w) (fun v w9 => mX (d + 1) 41 34 [.ref a0, .int x1, .int x2] (v.toList ++ []) w9) := by
  refine Eq.trans (X_st f_41_29 rfl rfl) ?_
  refine Eq.trans (X_st f_41_30 rfl rfl) ?_
  refine Eq.trans (X_call f_41_31 (by decide) rfl rfl rfl rfl rfl rfl (Nat.le_of_ble_eq_true rfl) (Nat.le_of_ble_eq_true rfl) (decide_eq_true h0) (Nat.le_of_ble_eq_true rfl)) ?_
  exact mThen_eq fun v w9 => mX_mask rfl
theorem b_41_34 {d : Nat} {a0 : Nat} {x1 : Int32} {x2 : Int32} {y0 : Int32} {w : MW} : mX d 41 34 [.ref a0, .int x1, .int x2] [.int y0] w = (if ¬ y0 = nI 0 then mX d 41 39 [.ref a0, .int x1, .int x2] [] w else mX d 41 37 [mJ, mJ, mJ] [] w) := by
  refine Eq.trans (X_br f_41_34 rfl rfl) ?_
  exact mIte_eq (mX_mask rfl) (mX_mask rfl)
theorem b_41_37 {d : Nat} {w : MW} : mX d 41 37 [mJ, mJ, mJ] [] w = some (.inl (some (.int (nI 0))), w) := by
  refine Eq.trans (X_iconst f_41_37 kc_i_0) ?_
  exact X_ireturn f_41_38 rfl
theorem b_41_39 {d : Nat} {a0 : Nat} {x1 : Int32} {x2 : Int32} {w : MW} (h0 : mTg w a0 = 2) (h1 : mR w a0 1 = some (gR w a0 1)) (h2 : mTg w (gR w a0 1) = 1) : mX (d + 1) 41 39 [.ref a0, .int x1, .int x2] [] w = mThen (mK d 30 [.ref (gR w a0 1), .int (nI 27), .int (mI w a0 2)] w) (fun v w9 => mX (d + 1) 41 52 [.ref a0, .int x1, .int x2] (v.toList ++ []) w9) := by
  refine Eq.trans (X_st f_41_39 rfl rfl) ?_
  refine Eq.trans (X_getR f_41_40 h0 rfl h1) ?_
  refine Eq.trans (X_bipush f_41_43 kc_b_27) ?_
  refine Eq.trans (X_st f_41_45 rfl rfl) ?_
  refine Eq.trans (X_getI f_41_46 h0 rfl) ?_
  refine Eq.trans (X_call f_41_49 (by decide) rfl rfl rfl rfl rfl rfl (Nat.le_of_ble_eq_true rfl) (Nat.le_of_ble_eq_true rfl) (decide_eq_true h2) (Nat.le_of_ble_eq_true rfl)) ?_
  exact mThen_eq fun v w9 => mX_mask rfl
theorem b_41_52 {d : Nat} {a0 : Nat} {x1 : Int32} {x2 : Int32} {w : MW} : mX d 41 52 [.ref a0, .int x1, .int x2] [] w = mX d 41 12 [.ref a0, .int x1, .int (x2 + (nI 1))] [] w := by
  refine Eq.trans (X_iinc f_41_52 kc_i_1 rfl rfl) ?_
  refine Eq.trans (X_st f_41_55 rfl rfl) ?_
  exact mX_mask rfl
theorem b_41_58 {d : Nat} {w : MW} : mX d 41 58 [mJ, mJ, mJ] [] w = some (.inl (some (.int (nI 1))), w) := by
  refine Eq.trans (X_iconst f_41_58 kc_i_1) ?_
  exact X_ireturn f_41_59 rfl
/-! BeeTurnpike$Grammar readSingle (I)Z -/
theorem f_42_0 : mFetch 42 0 = some (.aload_n 0, 1, []) := by decide +kernel
theorem f_42_1 : mFetch 42 1 = some (.getfield 33, 3, [2, 3, 0, 276]) := by decide +kernel
theorem f_42_4 : mFetch 42 4 = some (.istore_n 2, 1, []) := by decide +kernel
theorem f_42_5 : mFetch 42 5 = some (.iload_n 2, 1, []) := by decide +kernel
theorem f_42_6 : mFetch 42 6 = some (.lookupswitch 168 #[(24, 127), (25, 127), (26, 42), (91, 85)], 42, [174, 133, 133, 48, 91]) := by decide +kernel
theorem f_42_48 : mFetch 42 48 = some (.iload_n 1, 1, []) := by decide +kernel
theorem f_42_49 : mFetch 42 49 = some (.bipush 8, 2, []) := by decide +kernel
theorem f_42_51 : mFetch 42 51 = some (.if_icmp .ge 23, 3, [74]) := by decide +kernel
theorem f_42_54 : mFetch 42 54 = some (.aload_n 0, 1, []) := by decide +kernel
theorem f_42_55 : mFetch 42 55 = some (.bipush 26, 2, []) := by decide +kernel
theorem f_42_57 : mFetch 42 57 = some (.iconst 0, 1, []) := by decide +kernel
theorem f_42_58 : mFetch 42 58 = some (.invokevirtual 45, 3, [35, 3, 2, 2, 1179, 1181, 40]) := by decide +kernel
theorem f_42_61 : mFetch 42 61 = some (.ifCond .eq 13, 3, [74]) := by decide +kernel
theorem f_42_64 : mFetch 42 64 = some (.aload_n 0, 1, []) := by decide +kernel
theorem f_42_65 : mFetch 42 65 = some (.iload_n 1, 1, []) := by decide +kernel
theorem f_42_66 : mFetch 42 66 = some (.iconst 1, 1, []) := by decide +kernel
theorem f_42_67 : mFetch 42 67 = some (.iadd, 1, []) := by decide +kernel
theorem f_42_68 : mFetch 42 68 = some (.invokevirtual 79, 3, [42, 2, 2, 2, 1200, 1202, 45]) := by decide +kernel
theorem f_42_71 : mFetch 42 71 = some (.ifCond .ne 5, 3, [76]) := by decide +kernel
theorem f_42_74 : mFetch 42 74 = some (.iconst 0, 1, []) := by decide +kernel
theorem f_42_75 : mFetch 42 75 = some (.ireturn, 1, [2]) := by decide +kernel
theorem f_42_76 : mFetch 42 76 = some (.aload_n 0, 1, []) := by decide +kernel
theorem f_42_77 : mFetch 42 77 = some (.getfield 15, 3, [2, 1, 0, 274]) := by decide +kernel
theorem f_42_80 : mFetch 42 80 = some (.bipush 26, 2, []) := by decide +kernel
theorem f_42_82 : mFetch 42 82 = some (.aload_n 0, 1, []) := by decide +kernel
theorem f_42_83 : mFetch 42 83 = some (.getfield 19, 3, [2, 2, 0, 275]) := by decide +kernel
theorem f_42_86 : mFetch 42 86 = some (.invokevirtual 72, 3, [30, 3, 2, 1, 1204, 1205, 1206]) := by decide +kernel
theorem f_42_89 : mFetch 42 89 = some (.iconst 1, 1, []) := by decide +kernel
theorem f_42_90 : mFetch 42 90 = some (.ireturn, 1, [2]) := by decide +kernel
theorem f_42_91 : mFetch 42 91 = some (.iload_n 1, 1, []) := by decide +kernel
theorem f_42_92 : mFetch 42 92 = some (.bipush 8, 2, []) := by decide +kernel
theorem f_42_94 : mFetch 42 94 = some (.if_icmp .ge 37, 3, [131]) := by decide +kernel
theorem f_42_97 : mFetch 42 97 = some (.aload_n 0, 1, []) := by decide +kernel
theorem f_42_98 : mFetch 42 98 = some (.bipush 91, 2, []) := by decide +kernel
theorem f_42_100 : mFetch 42 100 = some (.iconst 0, 1, []) := by decide +kernel
theorem f_42_101 : mFetch 42 101 = some (.invokevirtual 45, 3, [35, 3, 2, 2, 1179, 1181, 40]) := by decide +kernel
theorem f_42_104 : mFetch 42 104 = some (.ifCond .eq 27, 3, [131]) := by decide +kernel
theorem f_42_107 : mFetch 42 107 = some (.aload_n 0, 1, []) := by decide +kernel
theorem f_42_108 : mFetch 42 108 = some (.iload_n 1, 1, []) := by decide +kernel
theorem f_42_109 : mFetch 42 109 = some (.iconst 1, 1, []) := by decide +kernel
theorem f_42_110 : mFetch 42 110 = some (.iadd, 1, []) := by decide +kernel
theorem f_42_111 : mFetch 42 111 = some (.invokevirtual 66, 3, [40, 2, 2, 2, 1192, 1194, 43]) := by decide +kernel
theorem f_42_114 : mFetch 42 114 = some (.ifCond .eq 17, 3, [131]) := by decide +kernel
theorem f_42_117 : mFetch 42 117 = some (.aload_n 0, 1, []) := by decide +kernel
theorem f_42_118 : mFetch 42 118 = some (.bipush 93, 2, []) := by decide +kernel
theorem f_42_120 : mFetch 42 120 = some (.iconst 0, 1, []) := by decide +kernel
theorem f_42_121 : mFetch 42 121 = some (.invokevirtual 45, 3, [35, 3, 2, 2, 1179, 1181, 40]) := by decide +kernel
theorem f_42_124 : mFetch 42 124 = some (.ifCond .eq 7, 3, [131]) := by decide +kernel
theorem f_42_127 : mFetch 42 127 = some (.iconst 1, 1, []) := by decide +kernel
theorem f_42_128 : mFetch 42 128 = some (.goto 4, 3, [132]) := by decide +kernel
theorem f_42_131 : mFetch 42 131 = some (.iconst 0, 1, []) := by decide +kernel
theorem f_42_132 : mFetch 42 132 = some (.ireturn, 1, [2]) := by decide +kernel
theorem f_42_133 : mFetch 42 133 = some (.aload_n 0, 1, []) := by decide +kernel
theorem f_42_134 : mFetch 42 134 = some (.getfield 15, 3, [2, 1, 0, 274]) := by decide +kernel
theorem f_42_137 : mFetch 42 137 = some (.iload_n 2, 1, []) := by decide +kernel
theorem f_42_138 : mFetch 42 138 = some (.aload_n 0, 1, []) := by decide +kernel
theorem f_42_139 : mFetch 42 139 = some (.getfield 19, 3, [2, 2, 0, 275]) := by decide +kernel
theorem f_42_142 : mFetch 42 142 = some (.iconst 1, 1, []) := by decide +kernel
theorem f_42_143 : mFetch 42 143 = some (.iadd, 1, []) := by decide +kernel
theorem f_42_144 : mFetch 42 144 = some (.invokevirtual 72, 3, [30, 3, 2, 1, 1204, 1205, 1206]) := by decide +kernel
theorem f_42_147 : mFetch 42 147 = some (.aload_n 0, 1, []) := by decide +kernel
theorem f_42_148 : mFetch 42 148 = some (.iload_n 2, 1, []) := by decide +kernel
theorem f_42_149 : mFetch 42 149 = some (.iconst 0, 1, []) := by decide +kernel
theorem f_42_150 : mFetch 42 150 = some (.invokevirtual 45, 3, [35, 3, 2, 2, 1179, 1181, 40]) := by decide +kernel
theorem f_42_153 : mFetch 42 153 = some (.ifCond .eq 19, 3, [172]) := by decide +kernel
theorem f_42_156 : mFetch 42 156 = some (.aload_n 0, 1, []) := by decide +kernel
theorem f_42_157 : mFetch 42 157 = some (.sipush 258, 3, []) := by decide +kernel
theorem f_42_160 : mFetch 42 160 = some (.bipush 12, 2, []) := by decide +kernel
theorem f_42_162 : mFetch 42 162 = some (.invokevirtual 45, 3, [35, 3, 2, 2, 1179, 1181, 40]) := by decide +kernel
theorem f_42_165 : mFetch 42 165 = some (.ifCond .eq 7, 3, [172]) := by decide +kernel
theorem f_42_168 : mFetch 42 168 = some (.iconst 1, 1, []) := by decide +kernel
theorem f_42_169 : mFetch 42 169 = some (.goto 4, 3, [173]) := by decide +kernel
theorem f_42_172 : mFetch 42 172 = some (.iconst 0, 1, []) := by decide +kernel
theorem f_42_173 : mFetch 42 173 = some (.ireturn, 1, [2]) := by decide +kernel
theorem f_42_174 : mFetch 42 174 = some (.aload_n 0, 1, []) := by decide +kernel
theorem f_42_175 : mFetch 42 175 = some (.iload_n 1, 1, []) := by decide +kernel
theorem f_42_176 : mFetch 42 176 = some (.invokevirtual 82, 3, [43, 2, 2, 2, 1210, 1212, 46]) := by decide +kernel
theorem f_42_179 : mFetch 42 179 = some (.ireturn, 1, [2]) := by decide +kernel
theorem s_42_0_24 {d : Nat} {a0 : Nat} {x1 : Int32} {w : MW} (h0 : mTg w a0 = 2) (h1 : (mI w a0 3) = (nI 24)) : mX d 42 0 [.ref a0, .int x1, mJ] [] w = mX d 42 133 [.ref a0, mJ, .int (mI w a0 3)] [] w := by
  refine Eq.trans (X_st f_42_0 rfl rfl) ?_
  refine Eq.trans (X_getI f_42_1 h0 rfl) ?_
  refine Eq.trans (X_istore_n (L' := [.ref a0, .int x1, .int (mI w a0 3)]) f_42_4 (Nat.le_of_ble_eq_true rfl) rfl) ?_
  refine Eq.trans (X_st f_42_5 rfl rfl) ?_
  refine Eq.trans (X_sw f_42_6 rfl (congrArg Value.int h1) rfl) ?_
  exact mX_mask rfl
theorem s_42_0_25 {d : Nat} {a0 : Nat} {x1 : Int32} {w : MW} (h0 : mTg w a0 = 2) (h1 : (mI w a0 3) = (nI 25)) : mX d 42 0 [.ref a0, .int x1, mJ] [] w = mX d 42 133 [.ref a0, mJ, .int (mI w a0 3)] [] w := by
  refine Eq.trans (X_st f_42_0 rfl rfl) ?_
  refine Eq.trans (X_getI f_42_1 h0 rfl) ?_
  refine Eq.trans (X_istore_n (L' := [.ref a0, .int x1, .int (mI w a0 3)]) f_42_4 (Nat.le_of_ble_eq_true rfl) rfl) ?_
  refine Eq.trans (X_st f_42_5 rfl rfl) ?_
  refine Eq.trans (X_sw f_42_6 rfl (congrArg Value.int h1) rfl) ?_
  exact mX_mask rfl
theorem s_42_0_26 {d : Nat} {a0 : Nat} {x1 : Int32} {w : MW} (h0 : mTg w a0 = 2) (h1 : (mI w a0 3) = (nI 26)) : mX d 42 0 [.ref a0, .int x1, mJ] [] w = mX d 42 48 [.ref a0, .int x1, mJ] [] w := by
  refine Eq.trans (X_st f_42_0 rfl rfl) ?_
  refine Eq.trans (X_getI f_42_1 h0 rfl) ?_
  refine Eq.trans (X_istore_n (L' := [.ref a0, .int x1, .int (mI w a0 3)]) f_42_4 (Nat.le_of_ble_eq_true rfl) rfl) ?_
  refine Eq.trans (X_st f_42_5 rfl rfl) ?_
  refine Eq.trans (X_sw f_42_6 rfl (congrArg Value.int h1) rfl) ?_
  exact mX_mask rfl
theorem s_42_0_91 {d : Nat} {a0 : Nat} {x1 : Int32} {w : MW} (h0 : mTg w a0 = 2) (h1 : (mI w a0 3) = (nI 91)) : mX d 42 0 [.ref a0, .int x1, mJ] [] w = mX d 42 91 [.ref a0, .int x1, mJ] [] w := by
  refine Eq.trans (X_st f_42_0 rfl rfl) ?_
  refine Eq.trans (X_getI f_42_1 h0 rfl) ?_
  refine Eq.trans (X_istore_n (L' := [.ref a0, .int x1, .int (mI w a0 3)]) f_42_4 (Nat.le_of_ble_eq_true rfl) rfl) ?_
  refine Eq.trans (X_st f_42_5 rfl rfl) ?_
  refine Eq.trans (X_sw f_42_6 rfl (congrArg Value.int h1) rfl) ?_
  exact mX_mask rfl
theorem s_42_0_d {d : Nat} {a0 : Nat} {x1 : Int32} {w : MW} (h0 : mTg w a0 = 2) (h1 : ¬ (24 : Int) = ((mI w a0 3)).toInt ∧ ¬ (25 : Int) = ((mI w a0 3)).toInt ∧ ¬ (26 : Int) = ((mI w a0 3)).toInt ∧ ¬ (91 : Int) = ((mI w a0 3)).toInt) : mX d 42 0 [.ref a0, .int x1, mJ] [] w = mX d 42 174 [.ref a0, .int x1, mJ] [] w := by
  refine Eq.trans (X_st f_42_0 rfl rfl) ?_
  refine Eq.trans (X_getI f_42_1 h0 rfl) ?_
  refine Eq.trans (X_istore_n (L' := [.ref a0, .int x1, .int (mI w a0 3)]) f_42_4 (Nat.le_of_ble_eq_true rfl) rfl) ?_
  refine Eq.trans (X_st f_42_5 rfl rfl) ?_
  refine Eq.trans (X_st f_42_6 rfl (by simp only [mstep, mLook, List.drop, List.getD_eq_getElem?_getD, h1.1, h1.2.1, h1.2.2.1, h1.2.2.2, if_false]; rfl)) ?_
  exact mX_mask rfl
theorem e_42 {d : Nat} {a0 : Nat} {x1 : Int32} {w : MW} : mK d 42 [.ref a0, .int x1] w = mX d 42 0 [.ref a0, .int x1, mJ] [] w := rfl
theorem b_42_48 {d : Nat} {a0 : Nat} {x1 : Int32} {w : MW} : mX d 42 48 [.ref a0, .int x1, mJ] [] w = (if (nI 8) ≤ x1 then mX d 42 74 [mJ, mJ, mJ] [] w else mX d 42 54 [.ref a0, .int x1, mJ] [] w) := by
  refine Eq.trans (X_st f_42_48 rfl rfl) ?_
  refine Eq.trans (X_bipush f_42_49 kc_b_8) ?_
  refine Eq.trans (X_br f_42_51 rfl rfl) ?_
  exact mIte_eq (mX_mask rfl) (mX_mask rfl)
theorem b_42_54 {d : Nat} {a0 : Nat} {x1 : Int32} {w : MW} (h0 : mTg w a0 = 2) : mX (d + 1) 42 54 [.ref a0, .int x1, mJ] [] w = mThen (mK d 35 [.ref a0, .int (nI 26), .int (nI 0)] w) (fun v w9 => mX (d + 1) 42 61 [.ref a0, .int x1, mJ] (v.toList ++ []) w9) := by
  refine Eq.trans (X_st f_42_54 rfl rfl) ?_
  refine Eq.trans (X_bipush f_42_55 kc_b_26) ?_
  refine Eq.trans (X_iconst f_42_57 kc_i_0) ?_
  refine Eq.trans (X_call f_42_58 (by decide) rfl rfl rfl rfl rfl rfl (Nat.le_of_ble_eq_true rfl) (Nat.le_of_ble_eq_true rfl) (decide_eq_true h0) (Nat.le_of_ble_eq_true rfl)) ?_
  exact mThen_eq fun v w9 => mX_mask rfl
theorem b_42_61 {d : Nat} {a0 : Nat} {x1 : Int32} {y0 : Int32} {w : MW} : mX d 42 61 [.ref a0, .int x1, mJ] [.int y0] w = (if y0 = nI 0 then mX d 42 74 [mJ, mJ, mJ] [] w else mX d 42 64 [.ref a0, .int x1, mJ] [] w) := by
  refine Eq.trans (X_br f_42_61 rfl rfl) ?_
  exact mIte_eq (mX_mask rfl) (mX_mask rfl)
theorem b_42_64 {d : Nat} {a0 : Nat} {x1 : Int32} {w : MW} (h0 : mTg w a0 = 2) : mX (d + 1) 42 64 [.ref a0, .int x1, mJ] [] w = mThen (mK d 42 [.ref a0, .int (x1 + (nI 1))] w) (fun v w9 => mX (d + 1) 42 71 [.ref a0, mJ, mJ] (v.toList ++ []) w9) := by
  refine Eq.trans (X_st f_42_64 rfl rfl) ?_
  refine Eq.trans (X_st f_42_65 rfl rfl) ?_
  refine Eq.trans (X_iconst f_42_66 kc_i_1) ?_
  refine Eq.trans (X_st f_42_67 rfl rfl) ?_
  refine Eq.trans (X_call f_42_68 (by decide) rfl rfl rfl rfl rfl rfl (Nat.le_of_ble_eq_true rfl) (Nat.le_of_ble_eq_true rfl) (decide_eq_true h0) (Nat.le_of_ble_eq_true rfl)) ?_
  exact mThen_eq fun v w9 => mX_mask rfl
theorem b_42_71 {d : Nat} {a0 : Nat} {y0 : Int32} {w : MW} : mX d 42 71 [.ref a0, mJ, mJ] [.int y0] w = (if ¬ y0 = nI 0 then mX d 42 76 [.ref a0, mJ, mJ] [] w else mX d 42 74 [mJ, mJ, mJ] [] w) := by
  refine Eq.trans (X_br f_42_71 rfl rfl) ?_
  exact mIte_eq (mX_mask rfl) (mX_mask rfl)
theorem b_42_74 {d : Nat} {w : MW} : mX d 42 74 [mJ, mJ, mJ] [] w = some (.inl (some (.int (nI 0))), w) := by
  refine Eq.trans (X_iconst f_42_74 kc_i_0) ?_
  exact X_ireturn f_42_75 rfl
theorem b_42_76 {d : Nat} {a0 : Nat} {w : MW} (h0 : mTg w a0 = 2) (h1 : mR w a0 1 = some (gR w a0 1)) (h2 : mTg w (gR w a0 1) = 1) : mX (d + 1) 42 76 [.ref a0, mJ, mJ] [] w = mThen (mK d 30 [.ref (gR w a0 1), .int (nI 26), .int (mI w a0 2)] w) (fun v w9 => mX (d + 1) 42 89 [mJ, mJ, mJ] (v.toList ++ []) w9) := by
  refine Eq.trans (X_st f_42_76 rfl rfl) ?_
  refine Eq.trans (X_getR f_42_77 h0 rfl h1) ?_
  refine Eq.trans (X_bipush f_42_80 kc_b_26) ?_
  refine Eq.trans (X_st f_42_82 rfl rfl) ?_
  refine Eq.trans (X_getI f_42_83 h0 rfl) ?_
  refine Eq.trans (X_call f_42_86 (by decide) rfl rfl rfl rfl rfl rfl (Nat.le_of_ble_eq_true rfl) (Nat.le_of_ble_eq_true rfl) (decide_eq_true h2) (Nat.le_of_ble_eq_true rfl)) ?_
  exact mThen_eq fun v w9 => mX_mask rfl
theorem b_42_89 {d : Nat} {w : MW} : mX d 42 89 [mJ, mJ, mJ] [] w = some (.inl (some (.int (nI 1))), w) := by
  refine Eq.trans (X_iconst f_42_89 kc_i_1) ?_
  exact X_ireturn f_42_90 rfl
theorem b_42_91 {d : Nat} {a0 : Nat} {x1 : Int32} {w : MW} : mX d 42 91 [.ref a0, .int x1, mJ] [] w = (if (nI 8) ≤ x1 then mX d 42 131 [mJ, mJ, mJ] [] w else mX d 42 97 [.ref a0, .int x1, mJ] [] w) := by
  refine Eq.trans (X_st f_42_91 rfl rfl) ?_
  refine Eq.trans (X_bipush f_42_92 kc_b_8) ?_
  refine Eq.trans (X_br f_42_94 rfl rfl) ?_
  exact mIte_eq (mX_mask rfl) (mX_mask rfl)
theorem b_42_97 {d : Nat} {a0 : Nat} {x1 : Int32} {w : MW} (h0 : mTg w a0 = 2) : mX (d + 1) 42 97 [.ref a0, .int x1, mJ] [] w = mThen (mK d 35 [.ref a0, .int (nI 91), .int (nI 0)] w) (fun v w9 => mX (d + 1) 42 104 [.ref a0, .int x1, mJ] (v.toList ++ []) w9) := by
  refine Eq.trans (X_st f_42_97 rfl rfl) ?_
  refine Eq.trans (X_bipush f_42_98 kc_b_91) ?_
  refine Eq.trans (X_iconst f_42_100 kc_i_0) ?_
  refine Eq.trans (X_call f_42_101 (by decide) rfl rfl rfl rfl rfl rfl (Nat.le_of_ble_eq_true rfl) (Nat.le_of_ble_eq_true rfl) (decide_eq_true h0) (Nat.le_of_ble_eq_true rfl)) ?_
  exact mThen_eq fun v w9 => mX_mask rfl
theorem b_42_104 {d : Nat} {a0 : Nat} {x1 : Int32} {y0 : Int32} {w : MW} : mX d 42 104 [.ref a0, .int x1, mJ] [.int y0] w = (if y0 = nI 0 then mX d 42 131 [mJ, mJ, mJ] [] w else mX d 42 107 [.ref a0, .int x1, mJ] [] w) := by
  refine Eq.trans (X_br f_42_104 rfl rfl) ?_
  exact mIte_eq (mX_mask rfl) (mX_mask rfl)
theorem b_42_107 {d : Nat} {a0 : Nat} {x1 : Int32} {w : MW} (h0 : mTg w a0 = 2) : mX (d + 1) 42 107 [.ref a0, .int x1, mJ] [] w = mThen (mK d 40 [.ref a0, .int (x1 + (nI 1))] w) (fun v w9 => mX (d + 1) 42 114 [.ref a0, mJ, mJ] (v.toList ++ []) w9) := by
  refine Eq.trans (X_st f_42_107 rfl rfl) ?_
  refine Eq.trans (X_st f_42_108 rfl rfl) ?_
  refine Eq.trans (X_iconst f_42_109 kc_i_1) ?_
  refine Eq.trans (X_st f_42_110 rfl rfl) ?_
  refine Eq.trans (X_call f_42_111 (by decide) rfl rfl rfl rfl rfl rfl (Nat.le_of_ble_eq_true rfl) (Nat.le_of_ble_eq_true rfl) (decide_eq_true h0) (Nat.le_of_ble_eq_true rfl)) ?_
  exact mThen_eq fun v w9 => mX_mask rfl
theorem b_42_114 {d : Nat} {a0 : Nat} {y0 : Int32} {w : MW} : mX d 42 114 [.ref a0, mJ, mJ] [.int y0] w = (if y0 = nI 0 then mX d 42 131 [mJ, mJ, mJ] [] w else mX d 42 117 [.ref a0, mJ, mJ] [] w) := by
  refine Eq.trans (X_br f_42_114 rfl rfl) ?_
  exact mIte_eq (mX_mask rfl) (mX_mask rfl)
theorem b_42_117 {d : Nat} {a0 : Nat} {w : MW} (h0 : mTg w a0 = 2) : mX (d + 1) 42 117 [.ref a0, mJ, mJ] [] w = mThen (mK d 35 [.ref a0, .int (nI 93), .int (nI 0)] w) (fun v w9 => mX (d + 1) 42 124 [mJ, mJ, mJ] (v.toList ++ []) w9) := by
  refine Eq.trans (X_st f_42_117 rfl rfl) ?_
  refine Eq.trans (X_bipush f_42_118 kc_b_93) ?_
  refine Eq.trans (X_iconst f_42_120 kc_i_0) ?_
  refine Eq.trans (X_call f_42_121 (by decide) rfl rfl rfl rfl rfl rfl (Nat.le_of_ble_eq_true rfl) (Nat.le_of_ble_eq_true rfl) (decide_eq_true h0) (Nat.le_of_ble_eq_true rfl)) ?_
  exact mThen_eq fun v w9 => mX_mask rfl
theorem b_42_124 {d : Nat} {y0 : Int32} {w : MW} : mX d 42 124 [mJ, mJ, mJ] [.int y0] w = (if y0 = nI 0 then mX d 42 131 [mJ, mJ, mJ] [] w else mX d 42 127 [mJ, mJ, mJ] [] w) := by
  refine Eq.trans (X_br f_42_124 rfl rfl) ?_
  exact mIte_eq (mX_mask rfl) (mX_mask rfl)
theorem b_42_127 {d : Nat} {w : MW} : mX d 42 127 [mJ, mJ, mJ] [] w = mX d 42 132 [mJ, mJ, mJ] [.int (nI 1)] w := by
  refine Eq.trans (X_iconst f_42_127 kc_i_1) ?_
  refine Eq.trans (X_st f_42_128 rfl rfl) ?_
  exact mX_mask rfl
theorem b_42_131 {d : Nat} {w : MW} : mX d 42 131 [mJ, mJ, mJ] [] w = mX d 42 132 [mJ, mJ, mJ] [.int (nI 0)] w := by
  refine Eq.trans (X_iconst f_42_131 kc_i_0) ?_
  exact mX_mask rfl
theorem b_42_132 {d : Nat} {y0 : Int32} {w : MW} (h0 : mRk 2 y0 = true) : mX d 42 132 [mJ, mJ, mJ] [.int y0] w = some (.inl (some (.int y0)), w) := by
  exact X_ireturn f_42_132 h0
theorem b_42_133 {d : Nat} {a0 : Nat} {x2 : Int32} {w : MW} (h0 : mTg w a0 = 2) (h1 : mR w a0 1 = some (gR w a0 1)) (h2 : mTg w (gR w a0 1) = 1) : mX (d + 1) 42 133 [.ref a0, mJ, .int x2] [] w = mThen (mK d 30 [.ref (gR w a0 1), .int x2, .int ((mI w a0 2) + (nI 1))] w) (fun v w9 => mX (d + 1) 42 147 [.ref a0, mJ, .int x2] (v.toList ++ []) w9) := by
  refine Eq.trans (X_st f_42_133 rfl rfl) ?_
  refine Eq.trans (X_getR f_42_134 h0 rfl h1) ?_
  refine Eq.trans (X_st f_42_137 rfl rfl) ?_
  refine Eq.trans (X_st f_42_138 rfl rfl) ?_
  refine Eq.trans (X_getI f_42_139 h0 rfl) ?_
  refine Eq.trans (X_iconst f_42_142 kc_i_1) ?_
  refine Eq.trans (X_st f_42_143 rfl rfl) ?_
  refine Eq.trans (X_call f_42_144 (by decide) rfl rfl rfl rfl rfl rfl (Nat.le_of_ble_eq_true rfl) (Nat.le_of_ble_eq_true rfl) (decide_eq_true h2) (Nat.le_of_ble_eq_true rfl)) ?_
  exact mThen_eq fun v w9 => mX_mask rfl
theorem b_42_147 {d : Nat} {a0 : Nat} {x2 : Int32} {w : MW} (h0 : mTg w a0 = 2) : mX (d + 1) 42 147 [.ref a0, mJ, .int x2] [] w = mThen (mK d 35 [.ref a0, .int x2, .int (nI 0)] w) (fun v w9 => mX (d + 1) 42 153 [.ref a0, mJ, mJ] (v.toList ++ []) w9) := by
  refine Eq.trans (X_st f_42_147 rfl rfl) ?_
  refine Eq.trans (X_st f_42_148 rfl rfl) ?_
  refine Eq.trans (X_iconst f_42_149 kc_i_0) ?_
  refine Eq.trans (X_call f_42_150 (by decide) rfl rfl rfl rfl rfl rfl (Nat.le_of_ble_eq_true rfl) (Nat.le_of_ble_eq_true rfl) (decide_eq_true h0) (Nat.le_of_ble_eq_true rfl)) ?_
  exact mThen_eq fun v w9 => mX_mask rfl
theorem b_42_153 {d : Nat} {a0 : Nat} {y0 : Int32} {w : MW} : mX d 42 153 [.ref a0, mJ, mJ] [.int y0] w = (if y0 = nI 0 then mX d 42 172 [mJ, mJ, mJ] [] w else mX d 42 156 [.ref a0, mJ, mJ] [] w) := by
  refine Eq.trans (X_br f_42_153 rfl rfl) ?_
  exact mIte_eq (mX_mask rfl) (mX_mask rfl)
theorem b_42_156 {d : Nat} {a0 : Nat} {w : MW} (h0 : mTg w a0 = 2) : mX (d + 1) 42 156 [.ref a0, mJ, mJ] [] w = mThen (mK d 35 [.ref a0, .int (nI 258), .int (nI 12)] w) (fun v w9 => mX (d + 1) 42 165 [mJ, mJ, mJ] (v.toList ++ []) w9) := by
  refine Eq.trans (X_st f_42_156 rfl rfl) ?_
  refine Eq.trans (X_sipush f_42_157 kc_s_258) ?_
  refine Eq.trans (X_bipush f_42_160 kc_b_12) ?_
  refine Eq.trans (X_call f_42_162 (by decide) rfl rfl rfl rfl rfl rfl (Nat.le_of_ble_eq_true rfl) (Nat.le_of_ble_eq_true rfl) (decide_eq_true h0) (Nat.le_of_ble_eq_true rfl)) ?_
  exact mThen_eq fun v w9 => mX_mask rfl
theorem b_42_165 {d : Nat} {y0 : Int32} {w : MW} : mX d 42 165 [mJ, mJ, mJ] [.int y0] w = (if y0 = nI 0 then mX d 42 172 [mJ, mJ, mJ] [] w else mX d 42 168 [mJ, mJ, mJ] [] w) := by
  refine Eq.trans (X_br f_42_165 rfl rfl) ?_
  exact mIte_eq (mX_mask rfl) (mX_mask rfl)
theorem b_42_168 {d : Nat} {w : MW} : mX d 42 168 [mJ, mJ, mJ] [] w = mX d 42 173 [mJ, mJ, mJ] [.int (nI 1)] w := by
  refine Eq.trans (X_iconst f_42_168 kc_i_1) ?_
  refine Eq.trans (X_st f_42_169 rfl rfl) ?_
  exact mX_mask rfl
theorem b_42_172 {d : Nat} {w : MW} : mX d 42 172 [mJ, mJ, mJ] [] w = mX d 42 173 [mJ, mJ, mJ] [.int (nI 0)] w := by
  refine Eq.trans (X_iconst f_42_172 kc_i_0) ?_
  exact mX_mask rfl
theorem b_42_173 {d : Nat} {y0 : Int32} {w : MW} (h0 : mRk 2 y0 = true) : mX d 42 173 [mJ, mJ, mJ] [.int y0] w = some (.inl (some (.int y0)), w) := by
  exact X_ireturn f_42_173 h0
theorem b_42_174 {d : Nat} {a0 : Nat} {x1 : Int32} {w : MW} (h0 : mTg w a0 = 2) : mX (d + 1) 42 174 [.ref a0, .int x1, mJ] [] w = mThen (mK d 43 [.ref a0, .int x1] w) (fun v w9 => mX (d + 1) 42 179 [mJ, mJ, mJ] (v.toList ++ []) w9) := by
  refine Eq.trans (X_st f_42_174 rfl rfl) ?_
  refine Eq.trans (X_st f_42_175 rfl rfl) ?_
  refine Eq.trans (X_call f_42_176 (by decide) rfl rfl rfl rfl rfl rfl (Nat.le_of_ble_eq_true rfl) (Nat.le_of_ble_eq_true rfl) (decide_eq_true h0) (Nat.le_of_ble_eq_true rfl)) ?_
  exact mThen_eq fun v w9 => mX_mask rfl
theorem b_42_179 {d : Nat} {y0 : Int32} {w : MW} (h0 : mRk 2 y0 = true) : mX d 42 179 [mJ, mJ, mJ] [.int y0] w = some (.inl (some (.int y0)), w) := by
  exact X_ireturn f_42_179 h0
/-! BeeTurnpike$Grammar readComparison (I)Z -/
theorem f_43_0 : mFetch 43 0 = some (.aload_n 0, 1, []) := by decide +kernel
theorem f_43_1 : mFetch 43 1 = some (.iload_n 1, 1, []) := by decide +kernel
theorem f_43_2 : mFetch 43 2 = some (.invokevirtual 85, 3, [44, 2, 2, 2, 1214, 1216, 47]) := by decide +kernel
theorem f_43_5 : mFetch 43 5 = some (.ifCond .ne 5, 3, [10]) := by decide +kernel
theorem f_43_8 : mFetch 43 8 = some (.iconst 0, 1, []) := by decide +kernel
theorem f_43_9 : mFetch 43 9 = some (.ireturn, 1, [2]) := by decide +kernel
theorem f_43_10 : mFetch 43 10 = some (.aload_n 0, 1, []) := by decide +kernel
theorem f_43_11 : mFetch 43 11 = some (.getfield 33, 3, [2, 3, 0, 276]) := by decide +kernel
theorem f_43_14 : mFetch 43 14 = some (.istore_n 2, 1, []) := by decide +kernel
theorem f_43_15 : mFetch 43 15 = some (.iload_n 2, 1, []) := by decide +kernel
theorem f_43_16 : mFetch 43 16 = some (.bipush 60, 2, []) := by decide +kernel
theorem f_43_18 : mFetch 43 18 = some (.if_icmp .eq 29, 3, [47]) := by decide +kernel
theorem f_43_21 : mFetch 43 21 = some (.iload_n 2, 1, []) := by decide +kernel
theorem f_43_22 : mFetch 43 22 = some (.bipush 62, 2, []) := by decide +kernel
theorem f_43_24 : mFetch 43 24 = some (.if_icmp .eq 23, 3, [47]) := by decide +kernel
theorem f_43_27 : mFetch 43 27 = some (.iload_n 2, 1, []) := by decide +kernel
theorem f_43_28 : mFetch 43 28 = some (.bipush 61, 2, []) := by decide +kernel
theorem f_43_30 : mFetch 43 30 = some (.if_icmp .eq 17, 3, [47]) := by decide +kernel
theorem f_43_33 : mFetch 43 33 = some (.iload_n 2, 1, []) := by decide +kernel
theorem f_43_34 : mFetch 43 34 = some (.sipush 256, 3, []) := by decide +kernel
theorem f_43_37 : mFetch 43 37 = some (.if_icmp .eq 10, 3, [47]) := by decide +kernel
theorem f_43_40 : mFetch 43 40 = some (.iload_n 2, 1, []) := by decide +kernel
theorem f_43_41 : mFetch 43 41 = some (.sipush 257, 3, []) := by decide +kernel
theorem f_43_44 : mFetch 43 44 = some (.if_icmp .ne 7, 3, [51]) := by decide +kernel
theorem f_43_47 : mFetch 43 47 = some (.iconst 1, 1, []) := by decide +kernel
theorem f_43_48 : mFetch 43 48 = some (.goto 4, 3, [52]) := by decide +kernel
theorem f_43_51 : mFetch 43 51 = some (.iconst 0, 1, []) := by decide +kernel
theorem f_43_52 : mFetch 43 52 = some (.istore_n 3, 1, []) := by decide +kernel
theorem f_43_53 : mFetch 43 53 = some (.iload_n 3, 1, []) := by decide +kernel
theorem f_43_54 : mFetch 43 54 = some (.ifCond .eq 20, 3, [74]) := by decide +kernel
theorem f_43_57 : mFetch 43 57 = some (.aload_n 0, 1, []) := by decide +kernel
theorem f_43_58 : mFetch 43 58 = some (.iload_n 2, 1, []) := by decide +kernel
theorem f_43_59 : mFetch 43 59 = some (.iconst 0, 1, []) := by decide +kernel
theorem f_43_60 : mFetch 43 60 = some (.invokevirtual 45, 3, [35, 3, 2, 2, 1179, 1181, 40]) := by decide +kernel
theorem f_43_63 : mFetch 43 63 = some (.ifCond .eq 11, 3, [74]) := by decide +kernel
theorem f_43_66 : mFetch 43 66 = some (.aload_n 0, 1, []) := by decide +kernel
theorem f_43_67 : mFetch 43 67 = some (.iload_n 1, 1, []) := by decide +kernel
theorem f_43_68 : mFetch 43 68 = some (.invokevirtual 85, 3, [44, 2, 2, 2, 1214, 1216, 47]) := by decide +kernel
theorem f_43_71 : mFetch 43 71 = some (.ifCond .ne 5, 3, [76]) := by decide +kernel
theorem f_43_74 : mFetch 43 74 = some (.iconst 0, 1, []) := by decide +kernel
theorem f_43_75 : mFetch 43 75 = some (.ireturn, 1, [2]) := by decide +kernel
theorem f_43_76 : mFetch 43 76 = some (.aload_n 0, 1, []) := by decide +kernel
theorem f_43_77 : mFetch 43 77 = some (.getfield 15, 3, [2, 1, 0, 274]) := by decide +kernel
theorem f_43_80 : mFetch 43 80 = some (.iload_n 2, 1, []) := by decide +kernel
theorem f_43_81 : mFetch 43 81 = some (.aload_n 0, 1, []) := by decide +kernel
theorem f_43_82 : mFetch 43 82 = some (.getfield 19, 3, [2, 2, 0, 275]) := by decide +kernel
theorem f_43_85 : mFetch 43 85 = some (.invokevirtual 72, 3, [30, 3, 2, 1, 1204, 1205, 1206]) := by decide +kernel
theorem f_43_88 : mFetch 43 88 = some (.iconst 1, 1, []) := by decide +kernel
theorem f_43_89 : mFetch 43 89 = some (.ireturn, 1, [2]) := by decide +kernel
theorem b_43_0 {d : Nat} {a0 : Nat} {x1 : Int32} {w : MW} (h0 : mTg w a0 = 2) : mX (d + 1) 43 0 [.ref a0, .int x1, mJ, mJ] [] w = mThen (mK d 44 [.ref a0, .int x1] w) (fun v w9 => mX (d + 1) 43 5 [.ref a0, .int x1, mJ, mJ] (v.toList ++ []) w9) := by
  refine Eq.trans (X_st f_43_0 rfl rfl) ?_
  refine Eq.trans (X_st f_43_1 rfl rfl) ?_
  refine Eq.trans (X_call f_43_2 (by decide) rfl rfl rfl rfl rfl rfl (Nat.le_of_ble_eq_true rfl) (Nat.le_of_ble_eq_true rfl) (decide_eq_true h0) (Nat.le_of_ble_eq_true rfl)) ?_
  exact mThen_eq fun v w9 => mX_mask rfl
theorem e_43 {d : Nat} {a0 : Nat} {x1 : Int32} {w : MW} : mK d 43 [.ref a0, .int x1] w = mX d 43 0 [.ref a0, .int x1, mJ, mJ] [] w := rfl
theorem b_43_5 {d : Nat} {a0 : Nat} {x1 : Int32} {y0 : Int32} {w : MW} : mX d 43 5 [.ref a0, .int x1, mJ, mJ] [.int y0] w = (if ¬ y0 = nI 0 then mX d 43 10 [.ref a0, .int x1, mJ, mJ] [] w else mX d 43 8 [mJ, mJ, mJ, mJ] [] w) := by
  refine Eq.trans (X_br f_43_5 rfl rfl) ?_
  exact mIte_eq (mX_mask rfl) (mX_mask rfl)
theorem b_43_8 {d : Nat} {w : MW} : mX d 43 8 [mJ, mJ, mJ, mJ] [] w = some (.inl (some (.int (nI 0))), w) := by
  refine Eq.trans (X_iconst f_43_8 kc_i_0) ?_
  exact X_ireturn f_43_9 rfl
theorem b_43_10 {d : Nat} {a0 : Nat} {x1 : Int32} {w : MW} (h0 : mTg w a0 = 2) : mX d 43 10 [.ref a0, .int x1, mJ, mJ] [] w = (if (mI w a0 3) = (nI 60) then mX d 43 47 [.ref a0, .int x1, .int (mI w a0 3), mJ] [] w else mX d 43 21 [.ref a0, .int x1, .int (mI w a0 3), mJ] [] w) := by
  refine Eq.trans (X_st f_43_10 rfl rfl) ?_
  refine Eq.trans (X_getI f_43_11 h0 rfl) ?_
  refine Eq.trans (X_istore_n (L' := [.ref a0, .int x1, .int (mI w a0 3), mJ]) f_43_14 (Nat.le_of_ble_eq_true rfl) rfl) ?_
  refine Eq.trans (X_st f_43_15 rfl rfl) ?_
  refine Eq.trans (X_bipush f_43_16 kc_b_60) ?_
  refine Eq.trans (X_br f_43_18 rfl rfl) ?_
  exact mIte_eq (mX_mask rfl) (mX_mask rfl)
theorem b_43_21 {d : Nat} {a0 : Nat} {x1 : Int32} {x2 : Int32} {w : MW} : mX d 43 21 [.ref a0, .int x1, .int x2, mJ] [] w = (if x2 = (nI 62) then mX d 43 47 [.ref a0, .int x1, .int x2, mJ] [] w else mX d 43 27 [.ref a0, .int x1, .int x2, mJ] [] w) := by
  refine Eq.trans (X_st f_43_21 rfl rfl) ?_
  refine Eq.trans (X_bipush f_43_22 kc_b_62) ?_
  refine Eq.trans (X_br f_43_24 rfl rfl) ?_
  exact mIte_eq (mX_mask rfl) (mX_mask rfl)
theorem b_43_27 {d : Nat} {a0 : Nat} {x1 : Int32} {x2 : Int32} {w : MW} : mX d 43 27 [.ref a0, .int x1, .int x2, mJ] [] w = (if x2 = (nI 61) then mX d 43 47 [.ref a0, .int x1, .int x2, mJ] [] w else mX d 43 33 [.ref a0, .int x1, .int x2, mJ] [] w) := by
  refine Eq.trans (X_st f_43_27 rfl rfl) ?_
  refine Eq.trans (X_bipush f_43_28 kc_b_61) ?_
  refine Eq.trans (X_br f_43_30 rfl rfl) ?_
  exact mIte_eq (mX_mask rfl) (mX_mask rfl)
theorem b_43_33 {d : Nat} {a0 : Nat} {x1 : Int32} {x2 : Int32} {w : MW} : mX d 43 33 [.ref a0, .int x1, .int x2, mJ] [] w = (if x2 = (nI 256) then mX d 43 47 [.ref a0, .int x1, .int x2, mJ] [] w else mX d 43 40 [.ref a0, .int x1, .int x2, mJ] [] w) := by
  refine Eq.trans (X_st f_43_33 rfl rfl) ?_
  refine Eq.trans (X_sipush f_43_34 kc_s_256) ?_
  refine Eq.trans (X_br f_43_37 rfl rfl) ?_
  exact mIte_eq (mX_mask rfl) (mX_mask rfl)
theorem b_43_40 {d : Nat} {a0 : Nat} {x1 : Int32} {x2 : Int32} {w : MW} : mX d 43 40 [.ref a0, .int x1, .int x2, mJ] [] w = (if ¬ x2 = (nI 257) then mX d 43 51 [.ref a0, .int x1, .int x2, mJ] [] w else mX d 43 47 [.ref a0, .int x1, .int x2, mJ] [] w) := by
  refine Eq.trans (X_st f_43_40 rfl rfl) ?_
  refine Eq.trans (X_sipush f_43_41 kc_s_257) ?_
  refine Eq.trans (X_br f_43_44 rfl rfl) ?_
  exact mIte_eq (mX_mask rfl) (mX_mask rfl)
theorem b_43_47 {d : Nat} {a0 : Nat} {x1 : Int32} {x2 : Int32} {w : MW} : mX d 43 47 [.ref a0, .int x1, .int x2, mJ] [] w = mX d 43 52 [.ref a0, .int x1, .int x2, mJ] [.int (nI 1)] w := by
  refine Eq.trans (X_iconst f_43_47 kc_i_1) ?_
  refine Eq.trans (X_st f_43_48 rfl rfl) ?_
  exact mX_mask rfl
theorem b_43_51 {d : Nat} {a0 : Nat} {x1 : Int32} {x2 : Int32} {w : MW} : mX d 43 51 [.ref a0, .int x1, .int x2, mJ] [] w = mX d 43 52 [.ref a0, .int x1, .int x2, mJ] [.int (nI 0)] w := by
  refine Eq.trans (X_iconst f_43_51 kc_i_0) ?_
  exact mX_mask rfl
theorem b_43_52 {d : Nat} {a0 : Nat} {x1 : Int32} {x2 : Int32} {y0 : Int32} {w : MW} : mX d 43 52 [.ref a0, .int x1, .int x2, mJ] [.int y0] w = (if y0 = nI 0 then mX d 43 74 [mJ, mJ, mJ, mJ] [] w else mX d 43 57 [.ref a0, .int x1, .int x2, mJ] [] w) := by
  refine Eq.trans (X_istore_n (L' := [.ref a0, .int x1, .int x2, .int y0]) f_43_52 (Nat.le_of_ble_eq_true rfl) rfl) ?_
  refine Eq.trans (X_st f_43_53 rfl rfl) ?_
  refine Eq.trans (X_br f_43_54 rfl rfl) ?_
  exact mIte_eq (mX_mask rfl) (mX_mask rfl)
theorem b_43_57 {d : Nat} {a0 : Nat} {x1 : Int32} {x2 : Int32} {w : MW} (h0 : mTg w a0 = 2) : mX (d + 1) 43 57 [.ref a0, .int x1, .int x2, mJ] [] w = mThen (mK d 35 [.ref a0, .int x2, .int (nI 0)] w) (fun v w9 => mX (d + 1) 43 63 [.ref a0, .int x1, .int x2, mJ] (v.toList ++ []) w9) := by
  refine Eq.trans (X_st f_43_57 rfl rfl) ?_
  refine Eq.trans (X_st f_43_58 rfl rfl) ?_
  refine Eq.trans (X_iconst f_43_59 kc_i_0) ?_
  refine Eq.trans (X_call f_43_60 (by decide) rfl rfl rfl rfl rfl rfl (Nat.le_of_ble_eq_true rfl) (Nat.le_of_ble_eq_true rfl) (decide_eq_true h0) (Nat.le_of_ble_eq_true rfl)) ?_
  exact mThen_eq fun v w9 => mX_mask rfl
theorem b_43_63 {d : Nat} {a0 : Nat} {x1 : Int32} {x2 : Int32} {y0 : Int32} {w : MW} : mX d 43 63 [.ref a0, .int x1, .int x2, mJ] [.int y0] w = (if y0 = nI 0 then mX d 43 74 [mJ, mJ, mJ, mJ] [] w else mX d 43 66 [.ref a0, .int x1, .int x2, mJ] [] w) := by
  refine Eq.trans (X_br f_43_63 rfl rfl) ?_
  exact mIte_eq (mX_mask rfl) (mX_mask rfl)
theorem b_43_66 {d : Nat} {a0 : Nat} {x1 : Int32} {x2 : Int32} {w : MW} (h0 : mTg w a0 = 2) : mX (d + 1) 43 66 [.ref a0, .int x1, .int x2, mJ] [] w = mThen (mK d 44 [.ref a0, .int x1] w) (fun v w9 => mX (d + 1) 43 71 [.ref a0, mJ, .int x2, mJ] (v.toList ++ []) w9) := by
  refine Eq.trans (X_st f_43_66 rfl rfl) ?_
  refine Eq.trans (X_st f_43_67 rfl rfl) ?_
  refine Eq.trans (X_call f_43_68 (by decide) rfl rfl rfl rfl rfl rfl (Nat.le_of_ble_eq_true rfl) (Nat.le_of_ble_eq_true rfl) (decide_eq_true h0) (Nat.le_of_ble_eq_true rfl)) ?_
  exact mThen_eq fun v w9 => mX_mask rfl
theorem b_43_71 {d : Nat} {a0 : Nat} {x2 : Int32} {y0 : Int32} {w : MW} : mX d 43 71 [.ref a0, mJ, .int x2, mJ] [.int y0] w = (if ¬ y0 = nI 0 then mX d 43 76 [.ref a0, mJ, .int x2, mJ] [] w else mX d 43 74 [mJ, mJ, mJ, mJ] [] w) := by
  refine Eq.trans (X_br f_43_71 rfl rfl) ?_
  exact mIte_eq (mX_mask rfl) (mX_mask rfl)
theorem b_43_74 {d : Nat} {w : MW} : mX d 43 74 [mJ, mJ, mJ, mJ] [] w = some (.inl (some (.int (nI 0))), w) := by
  refine Eq.trans (X_iconst f_43_74 kc_i_0) ?_
  exact X_ireturn f_43_75 rfl
theorem b_43_76 {d : Nat} {a0 : Nat} {x2 : Int32} {w : MW} (h0 : mTg w a0 = 2) (h1 : mR w a0 1 = some (gR w a0 1)) (h2 : mTg w (gR w a0 1) = 1) : mX (d + 1) 43 76 [.ref a0, mJ, .int x2, mJ] [] w = mThen (mK d 30 [.ref (gR w a0 1), .int x2, .int (mI w a0 2)] w) (fun v w9 => mX (d + 1) 43 88 [mJ, mJ, mJ, mJ] (v.toList ++ []) w9) := by
  refine Eq.trans (X_st f_43_76 rfl rfl) ?_
  refine Eq.trans (X_getR f_43_77 h0 rfl h1) ?_
  refine Eq.trans (X_st f_43_80 rfl rfl) ?_
  refine Eq.trans (X_st f_43_81 rfl rfl) ?_
  refine Eq.trans (X_getI f_43_82 h0 rfl) ?_
  refine Eq.trans (X_call f_43_85 (by decide) rfl rfl rfl rfl rfl rfl (Nat.le_of_ble_eq_true rfl) (Nat.le_of_ble_eq_true rfl) (decide_eq_true h2) (Nat.le_of_ble_eq_true rfl)) ?_
  exact mThen_eq fun v w9 => mX_mask rfl
theorem b_43_88 {d : Nat} {w : MW} : mX d 43 88 [mJ, mJ, mJ, mJ] [] w = some (.inl (some (.int (nI 1))), w) := by
  refine Eq.trans (X_iconst f_43_88 kc_i_1) ?_
  exact X_ireturn f_43_89 rfl
/-! BeeTurnpike$Grammar readSum (I)Z -/
theorem f_44_0 : mFetch 44 0 = some (.aload_n 0, 1, []) := by decide +kernel
theorem f_44_1 : mFetch 44 1 = some (.iload_n 1, 1, []) := by decide +kernel
theorem f_44_2 : mFetch 44 2 = some (.invokevirtual 88, 3, [45, 2, 2, 2, 1218, 1220, 48]) := by decide +kernel
theorem f_44_5 : mFetch 44 5 = some (.ifCond .ne 5, 3, [10]) := by decide +kernel
theorem f_44_8 : mFetch 44 8 = some (.iconst 0, 1, []) := by decide +kernel
theorem f_44_9 : mFetch 44 9 = some (.ireturn, 1, [2]) := by decide +kernel
theorem f_44_10 : mFetch 44 10 = some (.iconst 0, 1, []) := by decide +kernel
theorem f_44_11 : mFetch 44 11 = some (.istore_n 2, 1, []) := by decide +kernel
theorem f_44_12 : mFetch 44 12 = some (.iload_n 2, 1, []) := by decide +kernel
theorem f_44_13 : mFetch 44 13 = some (.sipush 400, 3, []) := by decide +kernel
theorem f_44_16 : mFetch 44 16 = some (.if_icmp .ge 63, 3, [79]) := by decide +kernel
theorem f_44_19 : mFetch 44 19 = some (.aload_n 0, 1, []) := by decide +kernel
theorem f_44_20 : mFetch 44 20 = some (.getfield 33, 3, [2, 3, 0, 276]) := by decide +kernel
theorem f_44_23 : mFetch 44 23 = some (.bipush 43, 2, []) := by decide +kernel
theorem f_44_25 : mFetch 44 25 = some (.if_icmp .eq 12, 3, [37]) := by decide +kernel
theorem f_44_28 : mFetch 44 28 = some (.aload_n 0, 1, []) := by decide +kernel
theorem f_44_29 : mFetch 44 29 = some (.getfield 33, 3, [2, 3, 0, 276]) := by decide +kernel
theorem f_44_32 : mFetch 44 32 = some (.bipush 45, 2, []) := by decide +kernel
theorem f_44_34 : mFetch 44 34 = some (.if_icmp .ne 45, 3, [79]) := by decide +kernel
theorem f_44_37 : mFetch 44 37 = some (.aload_n 0, 1, []) := by decide +kernel
theorem f_44_38 : mFetch 44 38 = some (.getfield 33, 3, [2, 3, 0, 276]) := by decide +kernel
theorem f_44_41 : mFetch 44 41 = some (.istore_n 3, 1, []) := by decide +kernel
theorem f_44_42 : mFetch 44 42 = some (.aload_n 0, 1, []) := by decide +kernel
theorem f_44_43 : mFetch 44 43 = some (.iload_n 3, 1, []) := by decide +kernel
theorem f_44_44 : mFetch 44 44 = some (.iconst 0, 1, []) := by decide +kernel
theorem f_44_45 : mFetch 44 45 = some (.invokevirtual 45, 3, [35, 3, 2, 2, 1179, 1181, 40]) := by decide +kernel
theorem f_44_48 : mFetch 44 48 = some (.ifCond .eq 11, 3, [59]) := by decide +kernel
theorem f_44_51 : mFetch 44 51 = some (.aload_n 0, 1, []) := by decide +kernel
theorem f_44_52 : mFetch 44 52 = some (.iload_n 1, 1, []) := by decide +kernel
theorem f_44_53 : mFetch 44 53 = some (.invokevirtual 88, 3, [45, 2, 2, 2, 1218, 1220, 48]) := by decide +kernel
theorem f_44_56 : mFetch 44 56 = some (.ifCond .ne 5, 3, [61]) := by decide +kernel
theorem f_44_59 : mFetch 44 59 = some (.iconst 0, 1, []) := by decide +kernel
theorem f_44_60 : mFetch 44 60 = some (.ireturn, 1, [2]) := by decide +kernel
theorem f_44_61 : mFetch 44 61 = some (.aload_n 0, 1, []) := by decide +kernel
theorem f_44_62 : mFetch 44 62 = some (.getfield 15, 3, [2, 1, 0, 274]) := by decide +kernel
theorem f_44_65 : mFetch 44 65 = some (.iload_n 3, 1, []) := by decide +kernel
theorem f_44_66 : mFetch 44 66 = some (.aload_n 0, 1, []) := by decide +kernel
theorem f_44_67 : mFetch 44 67 = some (.getfield 19, 3, [2, 2, 0, 275]) := by decide +kernel
theorem f_44_70 : mFetch 44 70 = some (.invokevirtual 72, 3, [30, 3, 2, 1, 1204, 1205, 1206]) := by decide +kernel
theorem f_44_73 : mFetch 44 73 = some (.iinc 2 1, 3, []) := by decide +kernel
theorem f_44_76 : mFetch 44 76 = some (.goto (-64), 3, [12]) := by decide +kernel
theorem f_44_79 : mFetch 44 79 = some (.iconst 1, 1, []) := by decide +kernel
theorem f_44_80 : mFetch 44 80 = some (.ireturn, 1, [2]) := by decide +kernel
theorem b_44_0 {d : Nat} {a0 : Nat} {x1 : Int32} {w : MW} (h0 : mTg w a0 = 2) : mX (d + 1) 44 0 [.ref a0, .int x1, mJ, mJ] [] w = mThen (mK d 45 [.ref a0, .int x1] w) (fun v w9 => mX (d + 1) 44 5 [.ref a0, .int x1, mJ, mJ] (v.toList ++ []) w9) := by
  refine Eq.trans (X_st f_44_0 rfl rfl) ?_
  refine Eq.trans (X_st f_44_1 rfl rfl) ?_
  refine Eq.trans (X_call f_44_2 (by decide) rfl rfl rfl rfl rfl rfl (Nat.le_of_ble_eq_true rfl) (Nat.le_of_ble_eq_true rfl) (decide_eq_true h0) (Nat.le_of_ble_eq_true rfl)) ?_
  exact mThen_eq fun v w9 => mX_mask rfl
theorem e_44 {d : Nat} {a0 : Nat} {x1 : Int32} {w : MW} : mK d 44 [.ref a0, .int x1] w = mX d 44 0 [.ref a0, .int x1, mJ, mJ] [] w := rfl
theorem b_44_5 {d : Nat} {a0 : Nat} {x1 : Int32} {y0 : Int32} {w : MW} : mX d 44 5 [.ref a0, .int x1, mJ, mJ] [.int y0] w = (if ¬ y0 = nI 0 then mX d 44 10 [.ref a0, .int x1, mJ, mJ] [] w else mX d 44 8 [mJ, mJ, mJ, mJ] [] w) := by
  refine Eq.trans (X_br f_44_5 rfl rfl) ?_
  exact mIte_eq (mX_mask rfl) (mX_mask rfl)
theorem b_44_8 {d : Nat} {w : MW} : mX d 44 8 [mJ, mJ, mJ, mJ] [] w = some (.inl (some (.int (nI 0))), w) := by
  refine Eq.trans (X_iconst f_44_8 kc_i_0) ?_
  exact X_ireturn f_44_9 rfl
theorem b_44_10 {d : Nat} {a0 : Nat} {x1 : Int32} {w : MW} : mX d 44 10 [.ref a0, .int x1, mJ, mJ] [] w = mX d 44 12 [.ref a0, .int x1, .int (nI 0), mJ] [] w := by
  refine Eq.trans (X_iconst f_44_10 kc_i_0) ?_
  refine Eq.trans (X_istore_n (L' := [.ref a0, .int x1, .int (nI 0), mJ]) f_44_11 (Nat.le_of_ble_eq_true rfl) rfl) ?_
  exact mX_mask rfl
theorem b_44_12 {d : Nat} {a0 : Nat} {x1 : Int32} {x2 : Int32} {w : MW} : mX d 44 12 [.ref a0, .int x1, .int x2, mJ] [] w = (if (nI 400) ≤ x2 then mX d 44 79 [mJ, mJ, mJ, mJ] [] w else mX d 44 19 [.ref a0, .int x1, .int x2, mJ] [] w) := by
  refine Eq.trans (X_st f_44_12 rfl rfl) ?_
  refine Eq.trans (X_sipush f_44_13 kc_s_400) ?_
  refine Eq.trans (X_br f_44_16 rfl rfl) ?_
  exact mIte_eq (mX_mask rfl) (mX_mask rfl)
theorem b_44_19 {d : Nat} {a0 : Nat} {x1 : Int32} {x2 : Int32} {w : MW} (h0 : mTg w a0 = 2) : mX d 44 19 [.ref a0, .int x1, .int x2, mJ] [] w = (if (mI w a0 3) = (nI 43) then mX d 44 37 [.ref a0, .int x1, .int x2, mJ] [] w else mX d 44 28 [.ref a0, .int x1, .int x2, mJ] [] w) := by
  refine Eq.trans (X_st f_44_19 rfl rfl) ?_
  refine Eq.trans (X_getI f_44_20 h0 rfl) ?_
  refine Eq.trans (X_bipush f_44_23 kc_b_43) ?_
  refine Eq.trans (X_br f_44_25 rfl rfl) ?_
  exact mIte_eq (mX_mask rfl) (mX_mask rfl)
theorem b_44_28 {d : Nat} {a0 : Nat} {x1 : Int32} {x2 : Int32} {w : MW} (h0 : mTg w a0 = 2) : mX d 44 28 [.ref a0, .int x1, .int x2, mJ] [] w = (if ¬ (mI w a0 3) = (nI 45) then mX d 44 79 [mJ, mJ, mJ, mJ] [] w else mX d 44 37 [.ref a0, .int x1, .int x2, mJ] [] w) := by
  refine Eq.trans (X_st f_44_28 rfl rfl) ?_
  refine Eq.trans (X_getI f_44_29 h0 rfl) ?_
  refine Eq.trans (X_bipush f_44_32 kc_b_45) ?_
  refine Eq.trans (X_br f_44_34 rfl rfl) ?_
  exact mIte_eq (mX_mask rfl) (mX_mask rfl)
theorem b_44_37 {d : Nat} {a0 : Nat} {x1 : Int32} {x2 : Int32} {w : MW} (h0 : mTg w a0 = 2) : mX (d + 1) 44 37 [.ref a0, .int x1, .int x2, mJ] [] w = mThen (mK d 35 [.ref a0, .int (mI w a0 3), .int (nI 0)] w) (fun v w9 => mX (d + 1) 44 48 [.ref a0, .int x1, .int x2, .int (mI w a0 3)] (v.toList ++ []) w9) := by
  refine Eq.trans (X_st f_44_37 rfl rfl) ?_
  refine Eq.trans (X_getI f_44_38 h0 rfl) ?_
  refine Eq.trans (X_istore_n (L' := [.ref a0, .int x1, .int x2, .int (mI w a0 3)]) f_44_41 (Nat.le_of_ble_eq_true rfl) rfl) ?_
  refine Eq.trans (X_st f_44_42 rfl rfl) ?_
  refine Eq.trans (X_st f_44_43 rfl rfl) ?_
  refine Eq.trans (X_iconst f_44_44 kc_i_0) ?_
  refine Eq.trans (X_call f_44_45 (by decide) rfl rfl rfl rfl rfl rfl (Nat.le_of_ble_eq_true rfl) (Nat.le_of_ble_eq_true rfl) (decide_eq_true h0) (Nat.le_of_ble_eq_true rfl)) ?_
  exact mThen_eq fun v w9 => mX_mask rfl
theorem b_44_48 {d : Nat} {a0 : Nat} {x1 : Int32} {x2 : Int32} {x3 : Int32} {y0 : Int32} {w : MW} : mX d 44 48 [.ref a0, .int x1, .int x2, .int x3] [.int y0] w = (if y0 = nI 0 then mX d 44 59 [mJ, mJ, mJ, mJ] [] w else mX d 44 51 [.ref a0, .int x1, .int x2, .int x3] [] w) := by
  refine Eq.trans (X_br f_44_48 rfl rfl) ?_
  exact mIte_eq (mX_mask rfl) (mX_mask rfl)
theorem b_44_51 {d : Nat} {a0 : Nat} {x1 : Int32} {x2 : Int32} {x3 : Int32} {w : MW} (h0 : mTg w a0 = 2) : mX (d + 1) 44 51 [.ref a0, .int x1, .int x2, .int x3] [] w = mThen (mK d 45 [.ref a0, .int x1] w) (fun v w9 => mX (d + 1) 44 56 [.ref a0, .int x1, .int x2, .int x3] (v.toList ++ []) w9) := by
  refine Eq.trans (X_st f_44_51 rfl rfl) ?_
  refine Eq.trans (X_st f_44_52 rfl rfl) ?_
  refine Eq.trans (X_call f_44_53 (by decide) rfl rfl rfl rfl rfl rfl (Nat.le_of_ble_eq_true rfl) (Nat.le_of_ble_eq_true rfl) (decide_eq_true h0) (Nat.le_of_ble_eq_true rfl)) ?_
  exact mThen_eq fun v w9 => mX_mask rfl
theorem b_44_56 {d : Nat} {a0 : Nat} {x1 : Int32} {x2 : Int32} {x3 : Int32} {y0 : Int32} {w : MW} : mX d 44 56 [.ref a0, .int x1, .int x2, .int x3] [.int y0] w = (if ¬ y0 = nI 0 then mX d 44 61 [.ref a0, .int x1, .int x2, .int x3] [] w else mX d 44 59 [mJ, mJ, mJ, mJ] [] w) := by
  refine Eq.trans (X_br f_44_56 rfl rfl) ?_
  exact mIte_eq (mX_mask rfl) (mX_mask rfl)
theorem b_44_59 {d : Nat} {w : MW} : mX d 44 59 [mJ, mJ, mJ, mJ] [] w = some (.inl (some (.int (nI 0))), w) := by
  refine Eq.trans (X_iconst f_44_59 kc_i_0) ?_
  exact X_ireturn f_44_60 rfl
theorem b_44_61 {d : Nat} {a0 : Nat} {x1 : Int32} {x2 : Int32} {x3 : Int32} {w : MW} (h0 : mTg w a0 = 2) (h1 : mR w a0 1 = some (gR w a0 1)) (h2 : mTg w (gR w a0 1) = 1) : mX (d + 1) 44 61 [.ref a0, .int x1, .int x2, .int x3] [] w = mThen (mK d 30 [.ref (gR w a0 1), .int x3, .int (mI w a0 2)] w) (fun v w9 => mX (d + 1) 44 73 [.ref a0, .int x1, .int x2, mJ] (v.toList ++ []) w9) := by
  refine Eq.trans (X_st f_44_61 rfl rfl) ?_
  refine Eq.trans (X_getR f_44_62 h0 rfl h1) ?_
  refine Eq.trans (X_st f_44_65 rfl rfl) ?_
  refine Eq.trans (X_st f_44_66 rfl rfl) ?_
  refine Eq.trans (X_getI f_44_67 h0 rfl) ?_
  refine Eq.trans (X_call f_44_70 (by decide) rfl rfl rfl rfl rfl rfl (Nat.le_of_ble_eq_true rfl) (Nat.le_of_ble_eq_true rfl) (decide_eq_true h2) (Nat.le_of_ble_eq_true rfl)) ?_
  exact mThen_eq fun v w9 => mX_mask rfl
theorem b_44_73 {d : Nat} {a0 : Nat} {x1 : Int32} {x2 : Int32} {w : MW} : mX d 44 73 [.ref a0, .int x1, .int x2, mJ] [] w = mX d 44 12 [.ref a0, .int x1, .int (x2 + (nI 1)), mJ] [] w := by
  refine Eq.trans (X_iinc f_44_73 kc_i_1 rfl rfl) ?_
  refine Eq.trans (X_st f_44_76 rfl rfl) ?_
  exact mX_mask rfl
theorem b_44_79 {d : Nat} {w : MW} : mX d 44 79 [mJ, mJ, mJ, mJ] [] w = some (.inl (some (.int (nI 1))), w) := by
  refine Eq.trans (X_iconst f_44_79 kc_i_1) ?_
  exact X_ireturn f_44_80 rfl
/-! BeeTurnpike$Grammar readProduct (I)Z -/
theorem f_45_0 : mFetch 45 0 = some (.aload_n 0, 1, []) := by decide +kernel
theorem f_45_1 : mFetch 45 1 = some (.iload_n 1, 1, []) := by decide +kernel
theorem f_45_2 : mFetch 45 2 = some (.invokevirtual 91, 3, [46, 2, 2, 2, 1222, 1224, 49]) := by decide +kernel
theorem f_45_5 : mFetch 45 5 = some (.ifCond .ne 5, 3, [10]) := by decide +kernel
theorem f_45_8 : mFetch 45 8 = some (.iconst 0, 1, []) := by decide +kernel
theorem f_45_9 : mFetch 45 9 = some (.ireturn, 1, [2]) := by decide +kernel
theorem f_45_10 : mFetch 45 10 = some (.iconst 0, 1, []) := by decide +kernel
theorem f_45_11 : mFetch 45 11 = some (.istore_n 2, 1, []) := by decide +kernel
theorem f_45_12 : mFetch 45 12 = some (.iload_n 2, 1, []) := by decide +kernel
theorem f_45_13 : mFetch 45 13 = some (.sipush 400, 3, []) := by decide +kernel
theorem f_45_16 : mFetch 45 16 = some (.if_icmp .ge 63, 3, [79]) := by decide +kernel
theorem f_45_19 : mFetch 45 19 = some (.aload_n 0, 1, []) := by decide +kernel
theorem f_45_20 : mFetch 45 20 = some (.getfield 33, 3, [2, 3, 0, 276]) := by decide +kernel
theorem f_45_23 : mFetch 45 23 = some (.bipush 42, 2, []) := by decide +kernel
theorem f_45_25 : mFetch 45 25 = some (.if_icmp .eq 12, 3, [37]) := by decide +kernel
theorem f_45_28 : mFetch 45 28 = some (.aload_n 0, 1, []) := by decide +kernel
theorem f_45_29 : mFetch 45 29 = some (.getfield 33, 3, [2, 3, 0, 276]) := by decide +kernel
theorem f_45_32 : mFetch 45 32 = some (.bipush 47, 2, []) := by decide +kernel
theorem f_45_34 : mFetch 45 34 = some (.if_icmp .ne 45, 3, [79]) := by decide +kernel
theorem f_45_37 : mFetch 45 37 = some (.aload_n 0, 1, []) := by decide +kernel
theorem f_45_38 : mFetch 45 38 = some (.getfield 33, 3, [2, 3, 0, 276]) := by decide +kernel
theorem f_45_41 : mFetch 45 41 = some (.istore_n 3, 1, []) := by decide +kernel
theorem f_45_42 : mFetch 45 42 = some (.aload_n 0, 1, []) := by decide +kernel
theorem f_45_43 : mFetch 45 43 = some (.iload_n 3, 1, []) := by decide +kernel
theorem f_45_44 : mFetch 45 44 = some (.iconst 0, 1, []) := by decide +kernel
theorem f_45_45 : mFetch 45 45 = some (.invokevirtual 45, 3, [35, 3, 2, 2, 1179, 1181, 40]) := by decide +kernel
theorem f_45_48 : mFetch 45 48 = some (.ifCond .eq 11, 3, [59]) := by decide +kernel
theorem f_45_51 : mFetch 45 51 = some (.aload_n 0, 1, []) := by decide +kernel
theorem f_45_52 : mFetch 45 52 = some (.iload_n 1, 1, []) := by decide +kernel
theorem f_45_53 : mFetch 45 53 = some (.invokevirtual 91, 3, [46, 2, 2, 2, 1222, 1224, 49]) := by decide +kernel
theorem f_45_56 : mFetch 45 56 = some (.ifCond .ne 5, 3, [61]) := by decide +kernel
theorem f_45_59 : mFetch 45 59 = some (.iconst 0, 1, []) := by decide +kernel
theorem f_45_60 : mFetch 45 60 = some (.ireturn, 1, [2]) := by decide +kernel
theorem f_45_61 : mFetch 45 61 = some (.aload_n 0, 1, []) := by decide +kernel
theorem f_45_62 : mFetch 45 62 = some (.getfield 15, 3, [2, 1, 0, 274]) := by decide +kernel
theorem f_45_65 : mFetch 45 65 = some (.iload_n 3, 1, []) := by decide +kernel
theorem f_45_66 : mFetch 45 66 = some (.aload_n 0, 1, []) := by decide +kernel
theorem f_45_67 : mFetch 45 67 = some (.getfield 19, 3, [2, 2, 0, 275]) := by decide +kernel
theorem f_45_70 : mFetch 45 70 = some (.invokevirtual 72, 3, [30, 3, 2, 1, 1204, 1205, 1206]) := by decide +kernel
theorem f_45_73 : mFetch 45 73 = some (.iinc 2 1, 3, []) := by decide +kernel
theorem f_45_76 : mFetch 45 76 = some (.goto (-64), 3, [12]) := by decide +kernel
theorem f_45_79 : mFetch 45 79 = some (.iconst 1, 1, []) := by decide +kernel
theorem f_45_80 : mFetch 45 80 = some (.ireturn, 1, [2]) := by decide +kernel
theorem b_45_0 {d : Nat} {a0 : Nat} {x1 : Int32} {w : MW} (h0 : mTg w a0 = 2) : mX (d + 1) 45 0 [.ref a0, .int x1, mJ, mJ] [] w = mThen (mK d 46 [.ref a0, .int x1] w) (fun v w9 => mX (d + 1) 45 5 [.ref a0, .int x1, mJ, mJ] (v.toList ++ []) w9) := by
  refine Eq.trans (X_st f_45_0 rfl rfl) ?_
  refine Eq.trans (X_st f_45_1 rfl rfl) ?_
  refine Eq.trans (X_call f_45_2 (by decide) rfl rfl rfl rfl rfl rfl (Nat.le_of_ble_eq_true rfl) (Nat.le_of_ble_eq_true rfl) (decide_eq_true h0) (Nat.le_of_ble_eq_true rfl)) ?_
  exact mThen_eq fun v w9 => mX_mask rfl
theorem e_45 {d : Nat} {a0 : Nat} {x1 : Int32} {w : MW} : mK d 45 [.ref a0, .int x1] w = mX d 45 0 [.ref a0, .int x1, mJ, mJ] [] w := rfl
theorem b_45_5 {d : Nat} {a0 : Nat} {x1 : Int32} {y0 : Int32} {w : MW} : mX d 45 5 [.ref a0, .int x1, mJ, mJ] [.int y0] w = (if ¬ y0 = nI 0 then mX d 45 10 [.ref a0, .int x1, mJ, mJ] [] w else mX d 45 8 [mJ, mJ, mJ, mJ] [] w) := by
  refine Eq.trans (X_br f_45_5 rfl rfl) ?_
  exact mIte_eq (mX_mask rfl) (mX_mask rfl)
theorem b_45_8 {d : Nat} {w : MW} : mX d 45 8 [mJ, mJ, mJ, mJ] [] w = some (.inl (some (.int (nI 0))), w) := by
  refine Eq.trans (X_iconst f_45_8 kc_i_0) ?_
  exact X_ireturn f_45_9 rfl
theorem b_45_10 {d : Nat} {a0 : Nat} {x1 : Int32} {w : MW} : mX d 45 10 [.ref a0, .int x1, mJ, mJ] [] w = mX d 45 12 [.ref a0, .int x1, .int (nI 0), mJ] [] w := by
  refine Eq.trans (X_iconst f_45_10 kc_i_0) ?_
  refine Eq.trans (X_istore_n (L' := [.ref a0, .int x1, .int (nI 0), mJ]) f_45_11 (Nat.le_of_ble_eq_true rfl) rfl) ?_
  exact mX_mask rfl
theorem b_45_12 {d : Nat} {a0 : Nat} {x1 : Int32} {x2 : Int32} {w : MW} : mX d 45 12 [.ref a0, .int x1, .int x2, mJ] [] w = (if (nI 400) ≤ x2 then mX d 45 79 [mJ, mJ, mJ, mJ] [] w else mX d 45 19 [.ref a0, .int x1, .int x2, mJ] [] w) := by
  refine Eq.trans (X_st f_45_12 rfl rfl) ?_
  refine Eq.trans (X_sipush f_45_13 kc_s_400) ?_
  refine Eq.trans (X_br f_45_16 rfl rfl) ?_
  exact mIte_eq (mX_mask rfl) (mX_mask rfl)
theorem b_45_19 {d : Nat} {a0 : Nat} {x1 : Int32} {x2 : Int32} {w : MW} (h0 : mTg w a0 = 2) : mX d 45 19 [.ref a0, .int x1, .int x2, mJ] [] w = (if (mI w a0 3) = (nI 42) then mX d 45 37 [.ref a0, .int x1, .int x2, mJ] [] w else mX d 45 28 [.ref a0, .int x1, .int x2, mJ] [] w) := by
  refine Eq.trans (X_st f_45_19 rfl rfl) ?_
  refine Eq.trans (X_getI f_45_20 h0 rfl) ?_
  refine Eq.trans (X_bipush f_45_23 kc_b_42) ?_
  refine Eq.trans (X_br f_45_25 rfl rfl) ?_
  exact mIte_eq (mX_mask rfl) (mX_mask rfl)
theorem b_45_28 {d : Nat} {a0 : Nat} {x1 : Int32} {x2 : Int32} {w : MW} (h0 : mTg w a0 = 2) : mX d 45 28 [.ref a0, .int x1, .int x2, mJ] [] w = (if ¬ (mI w a0 3) = (nI 47) then mX d 45 79 [mJ, mJ, mJ, mJ] [] w else mX d 45 37 [.ref a0, .int x1, .int x2, mJ] [] w) := by
  refine Eq.trans (X_st f_45_28 rfl rfl) ?_
  refine Eq.trans (X_getI f_45_29 h0 rfl) ?_
  refine Eq.trans (X_bipush f_45_32 kc_b_47) ?_
  refine Eq.trans (X_br f_45_34 rfl rfl) ?_
  exact mIte_eq (mX_mask rfl) (mX_mask rfl)
theorem b_45_37 {d : Nat} {a0 : Nat} {x1 : Int32} {x2 : Int32} {w : MW} (h0 : mTg w a0 = 2) : mX (d + 1) 45 37 [.ref a0, .int x1, .int x2, mJ] [] w = mThen (mK d 35 [.ref a0, .int (mI w a0 3), .int (nI 0)] w) (fun v w9 => mX (d + 1) 45 48 [.ref a0, .int x1, .int x2, .int (mI w a0 3)] (v.toList ++ []) w9) := by
  refine Eq.trans (X_st f_45_37 rfl rfl) ?_
  refine Eq.trans (X_getI f_45_38 h0 rfl) ?_
  refine Eq.trans (X_istore_n (L' := [.ref a0, .int x1, .int x2, .int (mI w a0 3)]) f_45_41 (Nat.le_of_ble_eq_true rfl) rfl) ?_
  refine Eq.trans (X_st f_45_42 rfl rfl) ?_
  refine Eq.trans (X_st f_45_43 rfl rfl) ?_
  refine Eq.trans (X_iconst f_45_44 kc_i_0) ?_
  refine Eq.trans (X_call f_45_45 (by decide) rfl rfl rfl rfl rfl rfl (Nat.le_of_ble_eq_true rfl) (Nat.le_of_ble_eq_true rfl) (decide_eq_true h0) (Nat.le_of_ble_eq_true rfl)) ?_
  exact mThen_eq fun v w9 => mX_mask rfl
theorem b_45_48 {d : Nat} {a0 : Nat} {x1 : Int32} {x2 : Int32} {x3 : Int32} {y0 : Int32} {w : MW} : mX d 45 48 [.ref a0, .int x1, .int x2, .int x3] [.int y0] w = (if y0 = nI 0 then mX d 45 59 [mJ, mJ, mJ, mJ] [] w else mX d 45 51 [.ref a0, .int x1, .int x2, .int x3] [] w) := by
  refine Eq.trans (X_br f_45_48 rfl rfl) ?_
  exact mIte_eq (mX_mask rfl) (mX_mask rfl)
theorem b_45_51 {d : Nat} {a0 : Nat} {x1 : Int32} {x2 : Int32} {x3 : Int32} {w : MW} (h0 : mTg w a0 = 2) : mX (d + 1) 45 51 [.ref a0, .int x1, .int x2, .int x3] [] w = mThen (mK d 46 [.ref a0, .int x1] w) (fun v w9 => mX (d + 1) 45 56 [.ref a0, .int x1, .int x2, .int x3] (v.toList ++ []) w9) := by
  refine Eq.trans (X_st f_45_51 rfl rfl) ?_
  refine Eq.trans (X_st f_45_52 rfl rfl) ?_
  refine Eq.trans (X_call f_45_53 (by decide) rfl rfl rfl rfl rfl rfl (Nat.le_of_ble_eq_true rfl) (Nat.le_of_ble_eq_true rfl) (decide_eq_true h0) (Nat.le_of_ble_eq_true rfl)) ?_
  exact mThen_eq fun v w9 => mX_mask rfl
theorem b_45_56 {d : Nat} {a0 : Nat} {x1 : Int32} {x2 : Int32} {x3 : Int32} {y0 : Int32} {w : MW} : mX d 45 56 [.ref a0, .int x1, .int x2, .int x3] [.int y0] w = (if ¬ y0 = nI 0 then mX d 45 61 [.ref a0, .int x1, .int x2, .int x3] [] w else mX d 45 59 [mJ, mJ, mJ, mJ] [] w) := by
  refine Eq.trans (X_br f_45_56 rfl rfl) ?_
  exact mIte_eq (mX_mask rfl) (mX_mask rfl)
theorem b_45_59 {d : Nat} {w : MW} : mX d 45 59 [mJ, mJ, mJ, mJ] [] w = some (.inl (some (.int (nI 0))), w) := by
  refine Eq.trans (X_iconst f_45_59 kc_i_0) ?_
  exact X_ireturn f_45_60 rfl
theorem b_45_61 {d : Nat} {a0 : Nat} {x1 : Int32} {x2 : Int32} {x3 : Int32} {w : MW} (h0 : mTg w a0 = 2) (h1 : mR w a0 1 = some (gR w a0 1)) (h2 : mTg w (gR w a0 1) = 1) : mX (d + 1) 45 61 [.ref a0, .int x1, .int x2, .int x3] [] w = mThen (mK d 30 [.ref (gR w a0 1), .int x3, .int (mI w a0 2)] w) (fun v w9 => mX (d + 1) 45 73 [.ref a0, .int x1, .int x2, mJ] (v.toList ++ []) w9) := by
  refine Eq.trans (X_st f_45_61 rfl rfl) ?_
  refine Eq.trans (X_getR f_45_62 h0 rfl h1) ?_
  refine Eq.trans (X_st f_45_65 rfl rfl) ?_
  refine Eq.trans (X_st f_45_66 rfl rfl) ?_
  refine Eq.trans (X_getI f_45_67 h0 rfl) ?_
  refine Eq.trans (X_call f_45_70 (by decide) rfl rfl rfl rfl rfl rfl (Nat.le_of_ble_eq_true rfl) (Nat.le_of_ble_eq_true rfl) (decide_eq_true h2) (Nat.le_of_ble_eq_true rfl)) ?_
  exact mThen_eq fun v w9 => mX_mask rfl
theorem b_45_73 {d : Nat} {a0 : Nat} {x1 : Int32} {x2 : Int32} {w : MW} : mX d 45 73 [.ref a0, .int x1, .int x2, mJ] [] w = mX d 45 12 [.ref a0, .int x1, .int (x2 + (nI 1)), mJ] [] w := by
  refine Eq.trans (X_iinc f_45_73 kc_i_1 rfl rfl) ?_
  refine Eq.trans (X_st f_45_76 rfl rfl) ?_
  exact mX_mask rfl
theorem b_45_79 {d : Nat} {w : MW} : mX d 45 79 [mJ, mJ, mJ, mJ] [] w = some (.inl (some (.int (nI 1))), w) := by
  refine Eq.trans (X_iconst f_45_79 kc_i_1) ?_
  exact X_ireturn f_45_80 rfl
/-! BeeTurnpike$Grammar readValue (I)Z -/
theorem f_46_0 : mFetch 46 0 = some (.aload_n 0, 1, []) := by decide +kernel
theorem f_46_1 : mFetch 46 1 = some (.getfield 33, 3, [2, 3, 0, 276]) := by decide +kernel
theorem f_46_4 : mFetch 46 4 = some (.istore_n 2, 1, []) := by decide +kernel
theorem f_46_5 : mFetch 46 5 = some (.iload_n 2, 1, []) := by decide +kernel
theorem f_46_6 : mFetch 46 6 = some (.lookupswitch 370 #[(5, 166), (9, 125), (19, 106), (20, 106), (21, 125), (22, 125), (23, 125), (29, 293), (30, 293), (40, 251), (45, 207), (259, 106)], 106, [376, 172, 131, 112, 112, 131, 131, 131, 299, 299, 257, 213, 112]) := by decide +kernel
theorem f_46_112 : mFetch 46 112 = some (.aload_n 0, 1, []) := by decide +kernel
theorem f_46_113 : mFetch 46 113 = some (.getfield 15, 3, [2, 1, 0, 274]) := by decide +kernel
theorem f_46_116 : mFetch 46 116 = some (.iload_n 2, 1, []) := by decide +kernel
theorem f_46_117 : mFetch 46 117 = some (.aload_n 0, 1, []) := by decide +kernel
theorem f_46_118 : mFetch 46 118 = some (.getfield 19, 3, [2, 2, 0, 275]) := by decide +kernel
theorem f_46_121 : mFetch 46 121 = some (.invokevirtual 72, 3, [30, 3, 2, 1, 1204, 1205, 1206]) := by decide +kernel
theorem f_46_124 : mFetch 46 124 = some (.aload_n 0, 1, []) := by decide +kernel
theorem f_46_125 : mFetch 46 125 = some (.iload_n 2, 1, []) := by decide +kernel
theorem f_46_126 : mFetch 46 126 = some (.iconst 0, 1, []) := by decide +kernel
theorem f_46_127 : mFetch 46 127 = some (.invokevirtual 45, 3, [35, 3, 2, 2, 1179, 1181, 40]) := by decide +kernel
theorem f_46_130 : mFetch 46 130 = some (.ireturn, 1, [2]) := by decide +kernel
theorem f_46_131 : mFetch 46 131 = some (.aload_n 0, 1, []) := by decide +kernel
theorem f_46_132 : mFetch 46 132 = some (.getfield 15, 3, [2, 1, 0, 274]) := by decide +kernel
theorem f_46_135 : mFetch 46 135 = some (.iload_n 2, 1, []) := by decide +kernel
theorem f_46_136 : mFetch 46 136 = some (.aload_n 0, 1, []) := by decide +kernel
theorem f_46_137 : mFetch 46 137 = some (.getfield 19, 3, [2, 2, 0, 275]) := by decide +kernel
theorem f_46_140 : mFetch 46 140 = some (.iconst 1, 1, []) := by decide +kernel
theorem f_46_141 : mFetch 46 141 = some (.iadd, 1, []) := by decide +kernel
theorem f_46_142 : mFetch 46 142 = some (.invokevirtual 72, 3, [30, 3, 2, 1, 1204, 1205, 1206]) := by decide +kernel
theorem f_46_145 : mFetch 46 145 = some (.aload_n 0, 1, []) := by decide +kernel
theorem f_46_146 : mFetch 46 146 = some (.iload_n 2, 1, []) := by decide +kernel
theorem f_46_147 : mFetch 46 147 = some (.iconst 0, 1, []) := by decide +kernel
theorem f_46_148 : mFetch 46 148 = some (.invokevirtual 45, 3, [35, 3, 2, 2, 1179, 1181, 40]) := by decide +kernel
theorem f_46_151 : mFetch 46 151 = some (.ifCond .eq 19, 3, [170]) := by decide +kernel
theorem f_46_154 : mFetch 46 154 = some (.aload_n 0, 1, []) := by decide +kernel
theorem f_46_155 : mFetch 46 155 = some (.sipush 258, 3, []) := by decide +kernel
theorem f_46_158 : mFetch 46 158 = some (.bipush 12, 2, []) := by decide +kernel
theorem f_46_160 : mFetch 46 160 = some (.invokevirtual 45, 3, [35, 3, 2, 2, 1179, 1181, 40]) := by decide +kernel
theorem f_46_163 : mFetch 46 163 = some (.ifCond .eq 7, 3, [170]) := by decide +kernel
theorem f_46_166 : mFetch 46 166 = some (.iconst 1, 1, []) := by decide +kernel
theorem f_46_167 : mFetch 46 167 = some (.goto 4, 3, [171]) := by decide +kernel
theorem f_46_170 : mFetch 46 170 = some (.iconst 0, 1, []) := by decide +kernel
theorem f_46_171 : mFetch 46 171 = some (.ireturn, 1, [2]) := by decide +kernel
theorem f_46_172 : mFetch 46 172 = some (.aload_n 0, 1, []) := by decide +kernel
theorem f_46_173 : mFetch 46 173 = some (.getfield 15, 3, [2, 1, 0, 274]) := by decide +kernel
theorem f_46_176 : mFetch 46 176 = some (.iload_n 2, 1, []) := by decide +kernel
theorem f_46_177 : mFetch 46 177 = some (.aload_n 0, 1, []) := by decide +kernel
theorem f_46_178 : mFetch 46 178 = some (.getfield 19, 3, [2, 2, 0, 275]) := by decide +kernel
theorem f_46_181 : mFetch 46 181 = some (.iconst 1, 1, []) := by decide +kernel
theorem f_46_182 : mFetch 46 182 = some (.iadd, 1, []) := by decide +kernel
theorem f_46_183 : mFetch 46 183 = some (.invokevirtual 72, 3, [30, 3, 2, 1, 1204, 1205, 1206]) := by decide +kernel
theorem f_46_186 : mFetch 46 186 = some (.aload_n 0, 1, []) := by decide +kernel
theorem f_46_187 : mFetch 46 187 = some (.iload_n 2, 1, []) := by decide +kernel
theorem f_46_188 : mFetch 46 188 = some (.iconst 0, 1, []) := by decide +kernel
theorem f_46_189 : mFetch 46 189 = some (.invokevirtual 45, 3, [35, 3, 2, 2, 1179, 1181, 40]) := by decide +kernel
theorem f_46_192 : mFetch 46 192 = some (.ifCond .eq 19, 3, [211]) := by decide +kernel
theorem f_46_195 : mFetch 46 195 = some (.aload_n 0, 1, []) := by decide +kernel
theorem f_46_196 : mFetch 46 196 = some (.sipush 258, 3, []) := by decide +kernel
theorem f_46_199 : mFetch 46 199 = some (.bipush 13, 2, []) := by decide +kernel
theorem f_46_201 : mFetch 46 201 = some (.invokevirtual 45, 3, [35, 3, 2, 2, 1179, 1181, 40]) := by decide +kernel
theorem f_46_204 : mFetch 46 204 = some (.ifCond .eq 7, 3, [211]) := by decide +kernel
theorem f_46_207 : mFetch 46 207 = some (.iconst 1, 1, []) := by decide +kernel
theorem f_46_208 : mFetch 46 208 = some (.goto 4, 3, [212]) := by decide +kernel
theorem f_46_211 : mFetch 46 211 = some (.iconst 0, 1, []) := by decide +kernel
theorem f_46_212 : mFetch 46 212 = some (.ireturn, 1, [2]) := by decide +kernel
theorem f_46_213 : mFetch 46 213 = some (.iload_n 1, 1, []) := by decide +kernel
theorem f_46_214 : mFetch 46 214 = some (.bipush 8, 2, []) := by decide +kernel
theorem f_46_216 : mFetch 46 216 = some (.if_icmp .ge 23, 3, [239]) := by decide +kernel
theorem f_46_219 : mFetch 46 219 = some (.aload_n 0, 1, []) := by decide +kernel
theorem f_46_220 : mFetch 46 220 = some (.bipush 45, 2, []) := by decide +kernel
theorem f_46_222 : mFetch 46 222 = some (.iconst 0, 1, []) := by decide +kernel
theorem f_46_223 : mFetch 46 223 = some (.invokevirtual 45, 3, [35, 3, 2, 2, 1179, 1181, 40]) := by decide +kernel
theorem f_46_226 : mFetch 46 226 = some (.ifCond .eq 13, 3, [239]) := by decide +kernel
theorem f_46_229 : mFetch 46 229 = some (.aload_n 0, 1, []) := by decide +kernel
theorem f_46_230 : mFetch 46 230 = some (.iload_n 1, 1, []) := by decide +kernel
theorem f_46_231 : mFetch 46 231 = some (.iconst 1, 1, []) := by decide +kernel
theorem f_46_232 : mFetch 46 232 = some (.iadd, 1, []) := by decide +kernel
theorem f_46_233 : mFetch 46 233 = some (.invokevirtual 91, 3, [46, 2, 2, 2, 1222, 1224, 49]) := by decide +kernel
theorem f_46_236 : mFetch 46 236 = some (.ifCond .ne 5, 3, [241]) := by decide +kernel
theorem f_46_239 : mFetch 46 239 = some (.iconst 0, 1, []) := by decide +kernel
theorem f_46_240 : mFetch 46 240 = some (.ireturn, 1, [2]) := by decide +kernel
theorem f_46_241 : mFetch 46 241 = some (.aload_n 0, 1, []) := by decide +kernel
theorem f_46_242 : mFetch 46 242 = some (.getfield 15, 3, [2, 1, 0, 274]) := by decide +kernel
theorem f_46_245 : mFetch 46 245 = some (.sipush 262, 3, []) := by decide +kernel
theorem f_46_248 : mFetch 46 248 = some (.aload_n 0, 1, []) := by decide +kernel
theorem f_46_249 : mFetch 46 249 = some (.getfield 19, 3, [2, 2, 0, 275]) := by decide +kernel
theorem f_46_252 : mFetch 46 252 = some (.invokevirtual 72, 3, [30, 3, 2, 1, 1204, 1205, 1206]) := by decide +kernel
theorem f_46_255 : mFetch 46 255 = some (.iconst 1, 1, []) := by decide +kernel
theorem f_46_256 : mFetch 46 256 = some (.ireturn, 1, [2]) := by decide +kernel
theorem f_46_257 : mFetch 46 257 = some (.iload_n 1, 1, []) := by decide +kernel
theorem f_46_258 : mFetch 46 258 = some (.bipush 8, 2, []) := by decide +kernel
theorem f_46_260 : mFetch 46 260 = some (.if_icmp .ge 37, 3, [297]) := by decide +kernel
theorem f_46_263 : mFetch 46 263 = some (.aload_n 0, 1, []) := by decide +kernel
theorem f_46_264 : mFetch 46 264 = some (.bipush 40, 2, []) := by decide +kernel
theorem f_46_266 : mFetch 46 266 = some (.iconst 0, 1, []) := by decide +kernel
theorem f_46_267 : mFetch 46 267 = some (.invokevirtual 45, 3, [35, 3, 2, 2, 1179, 1181, 40]) := by decide +kernel
theorem f_46_270 : mFetch 46 270 = some (.ifCond .eq 27, 3, [297]) := by decide +kernel
theorem f_46_273 : mFetch 46 273 = some (.aload_n 0, 1, []) := by decide +kernel
theorem f_46_274 : mFetch 46 274 = some (.iload_n 1, 1, []) := by decide +kernel
theorem f_46_275 : mFetch 46 275 = some (.iconst 1, 1, []) := by decide +kernel
theorem f_46_276 : mFetch 46 276 = some (.iadd, 1, []) := by decide +kernel
theorem f_46_277 : mFetch 46 277 = some (.invokevirtual 85, 3, [44, 2, 2, 2, 1214, 1216, 47]) := by decide +kernel
theorem f_46_280 : mFetch 46 280 = some (.ifCond .eq 17, 3, [297]) := by decide +kernel
theorem f_46_283 : mFetch 46 283 = some (.aload_n 0, 1, []) := by decide +kernel
theorem f_46_284 : mFetch 46 284 = some (.bipush 41, 2, []) := by decide +kernel
theorem f_46_286 : mFetch 46 286 = some (.iconst 0, 1, []) := by decide +kernel
theorem f_46_287 : mFetch 46 287 = some (.invokevirtual 45, 3, [35, 3, 2, 2, 1179, 1181, 40]) := by decide +kernel
theorem f_46_290 : mFetch 46 290 = some (.ifCond .eq 7, 3, [297]) := by decide +kernel
theorem f_46_293 : mFetch 46 293 = some (.iconst 1, 1, []) := by decide +kernel
theorem f_46_294 : mFetch 46 294 = some (.goto 4, 3, [298]) := by decide +kernel
theorem f_46_297 : mFetch 46 297 = some (.iconst 0, 1, []) := by decide +kernel
theorem f_46_298 : mFetch 46 298 = some (.ireturn, 1, [2]) := by decide +kernel
theorem f_46_299 : mFetch 46 299 = some (.aload_n 0, 1, []) := by decide +kernel
theorem f_46_300 : mFetch 46 300 = some (.iload_n 2, 1, []) := by decide +kernel
theorem f_46_301 : mFetch 46 301 = some (.iconst 0, 1, []) := by decide +kernel
theorem f_46_302 : mFetch 46 302 = some (.invokevirtual 45, 3, [35, 3, 2, 2, 1179, 1181, 40]) := by decide +kernel
theorem f_46_305 : mFetch 46 305 = some (.ifCond .eq 49, 3, [354]) := by decide +kernel
theorem f_46_308 : mFetch 46 308 = some (.iload_n 1, 1, []) := by decide +kernel
theorem f_46_309 : mFetch 46 309 = some (.bipush 8, 2, []) := by decide +kernel
theorem f_46_311 : mFetch 46 311 = some (.if_icmp .ge 43, 3, [354]) := by decide +kernel
theorem f_46_314 : mFetch 46 314 = some (.aload_n 0, 1, []) := by decide +kernel
theorem f_46_315 : mFetch 46 315 = some (.bipush 40, 2, []) := by decide +kernel
theorem f_46_317 : mFetch 46 317 = some (.iconst 0, 1, []) := by decide +kernel
theorem f_46_318 : mFetch 46 318 = some (.invokevirtual 45, 3, [35, 3, 2, 2, 1179, 1181, 40]) := by decide +kernel
theorem f_46_321 : mFetch 46 321 = some (.ifCond .eq 33, 3, [354]) := by decide +kernel
theorem f_46_324 : mFetch 46 324 = some (.aload_n 0, 1, []) := by decide +kernel
theorem f_46_325 : mFetch 46 325 = some (.iload_n 1, 1, []) := by decide +kernel
theorem f_46_326 : mFetch 46 326 = some (.iconst 1, 1, []) := by decide +kernel
theorem f_46_327 : mFetch 46 327 = some (.iadd, 1, []) := by decide +kernel
theorem f_46_328 : mFetch 46 328 = some (.invokevirtual 85, 3, [44, 2, 2, 2, 1214, 1216, 47]) := by decide +kernel
theorem f_46_331 : mFetch 46 331 = some (.ifCond .eq 23, 3, [354]) := by decide +kernel
theorem f_46_334 : mFetch 46 334 = some (.aload_n 0, 1, []) := by decide +kernel
theorem f_46_335 : mFetch 46 335 = some (.bipush 44, 2, []) := by decide +kernel
theorem f_46_337 : mFetch 46 337 = some (.iconst 0, 1, []) := by decide +kernel
theorem f_46_338 : mFetch 46 338 = some (.invokevirtual 45, 3, [35, 3, 2, 2, 1179, 1181, 40]) := by decide +kernel
theorem f_46_341 : mFetch 46 341 = some (.ifCond .eq 13, 3, [354]) := by decide +kernel
theorem f_46_344 : mFetch 46 344 = some (.aload_n 0, 1, []) := by decide +kernel
theorem f_46_345 : mFetch 46 345 = some (.iload_n 1, 1, []) := by decide +kernel
theorem f_46_346 : mFetch 46 346 = some (.iconst 1, 1, []) := by decide +kernel
theorem f_46_347 : mFetch 46 347 = some (.iadd, 1, []) := by decide +kernel
theorem f_46_348 : mFetch 46 348 = some (.invokevirtual 85, 3, [44, 2, 2, 2, 1214, 1216, 47]) := by decide +kernel
theorem f_46_351 : mFetch 46 351 = some (.ifCond .ne 5, 3, [356]) := by decide +kernel
theorem f_46_354 : mFetch 46 354 = some (.iconst 0, 1, []) := by decide +kernel
theorem f_46_355 : mFetch 46 355 = some (.ireturn, 1, [2]) := by decide +kernel
theorem f_46_356 : mFetch 46 356 = some (.aload_n 0, 1, []) := by decide +kernel
theorem f_46_357 : mFetch 46 357 = some (.getfield 15, 3, [2, 1, 0, 274]) := by decide +kernel
theorem f_46_360 : mFetch 46 360 = some (.iload_n 2, 1, []) := by decide +kernel
theorem f_46_361 : mFetch 46 361 = some (.aload_n 0, 1, []) := by decide +kernel
theorem f_46_362 : mFetch 46 362 = some (.getfield 19, 3, [2, 2, 0, 275]) := by decide +kernel
theorem f_46_365 : mFetch 46 365 = some (.invokevirtual 72, 3, [30, 3, 2, 1, 1204, 1205, 1206]) := by decide +kernel
theorem f_46_368 : mFetch 46 368 = some (.aload_n 0, 1, []) := by decide +kernel
theorem f_46_369 : mFetch 46 369 = some (.bipush 41, 2, []) := by decide +kernel
theorem f_46_371 : mFetch 46 371 = some (.iconst 0, 1, []) := by decide +kernel
theorem f_46_372 : mFetch 46 372 = some (.invokevirtual 45, 3, [35, 3, 2, 2, 1179, 1181, 40]) := by decide +kernel
theorem f_46_375 : mFetch 46 375 = some (.ireturn, 1, [2]) := by decide +kernel
theorem f_46_376 : mFetch 46 376 = some (.iconst 0, 1, []) := by decide +kernel
theorem f_46_377 : mFetch 46 377 = some (.ireturn, 1, [2]) := by decide +kernel
theorem s_46_0_5 {d : Nat} {a0 : Nat} {x1 : Int32} {w : MW} (h0 : mTg w a0 = 2) (h1 : (mI w a0 3) = (nI 5)) : mX d 46 0 [.ref a0, .int x1, mJ] [] w = mX d 46 172 [.ref a0, mJ, .int (mI w a0 3)] [] w := by
  refine Eq.trans (X_st f_46_0 rfl rfl) ?_
  refine Eq.trans (X_getI f_46_1 h0 rfl) ?_
  refine Eq.trans (X_istore_n (L' := [.ref a0, .int x1, .int (mI w a0 3)]) f_46_4 (Nat.le_of_ble_eq_true rfl) rfl) ?_
  refine Eq.trans (X_st f_46_5 rfl rfl) ?_
  refine Eq.trans (X_sw f_46_6 rfl (congrArg Value.int h1) rfl) ?_
  exact mX_mask rfl
theorem s_46_0_9 {d : Nat} {a0 : Nat} {x1 : Int32} {w : MW} (h0 : mTg w a0 = 2) (h1 : (mI w a0 3) = (nI 9)) : mX d 46 0 [.ref a0, .int x1, mJ] [] w = mX d 46 131 [.ref a0, mJ, .int (mI w a0 3)] [] w := by
  refine Eq.trans (X_st f_46_0 rfl rfl) ?_
  refine Eq.trans (X_getI f_46_1 h0 rfl) ?_
  refine Eq.trans (X_istore_n (L' := [.ref a0, .int x1, .int (mI w a0 3)]) f_46_4 (Nat.le_of_ble_eq_true rfl) rfl) ?_
  refine Eq.trans (X_st f_46_5 rfl rfl) ?_
  refine Eq.trans (X_sw f_46_6 rfl (congrArg Value.int h1) rfl) ?_
  exact mX_mask rfl
theorem s_46_0_19 {d : Nat} {a0 : Nat} {x1 : Int32} {w : MW} (h0 : mTg w a0 = 2) (h1 : (mI w a0 3) = (nI 19)) : mX d 46 0 [.ref a0, .int x1, mJ] [] w = mX d 46 112 [.ref a0, mJ, .int (mI w a0 3)] [] w := by
  refine Eq.trans (X_st f_46_0 rfl rfl) ?_
  refine Eq.trans (X_getI f_46_1 h0 rfl) ?_
  refine Eq.trans (X_istore_n (L' := [.ref a0, .int x1, .int (mI w a0 3)]) f_46_4 (Nat.le_of_ble_eq_true rfl) rfl) ?_
  refine Eq.trans (X_st f_46_5 rfl rfl) ?_
  refine Eq.trans (X_sw f_46_6 rfl (congrArg Value.int h1) rfl) ?_
  exact mX_mask rfl
theorem s_46_0_20 {d : Nat} {a0 : Nat} {x1 : Int32} {w : MW} (h0 : mTg w a0 = 2) (h1 : (mI w a0 3) = (nI 20)) : mX d 46 0 [.ref a0, .int x1, mJ] [] w = mX d 46 112 [.ref a0, mJ, .int (mI w a0 3)] [] w := by
  refine Eq.trans (X_st f_46_0 rfl rfl) ?_
  refine Eq.trans (X_getI f_46_1 h0 rfl) ?_
  refine Eq.trans (X_istore_n (L' := [.ref a0, .int x1, .int (mI w a0 3)]) f_46_4 (Nat.le_of_ble_eq_true rfl) rfl) ?_
  refine Eq.trans (X_st f_46_5 rfl rfl) ?_
  refine Eq.trans (X_sw f_46_6 rfl (congrArg Value.int h1) rfl) ?_
  exact mX_mask rfl
theorem s_46_0_21 {d : Nat} {a0 : Nat} {x1 : Int32} {w : MW} (h0 : mTg w a0 = 2) (h1 : (mI w a0 3) = (nI 21)) : mX d 46 0 [.ref a0, .int x1, mJ] [] w = mX d 46 131 [.ref a0, mJ, .int (mI w a0 3)] [] w := by
  refine Eq.trans (X_st f_46_0 rfl rfl) ?_
  refine Eq.trans (X_getI f_46_1 h0 rfl) ?_
  refine Eq.trans (X_istore_n (L' := [.ref a0, .int x1, .int (mI w a0 3)]) f_46_4 (Nat.le_of_ble_eq_true rfl) rfl) ?_
  refine Eq.trans (X_st f_46_5 rfl rfl) ?_
  refine Eq.trans (X_sw f_46_6 rfl (congrArg Value.int h1) rfl) ?_
  exact mX_mask rfl
theorem s_46_0_22 {d : Nat} {a0 : Nat} {x1 : Int32} {w : MW} (h0 : mTg w a0 = 2) (h1 : (mI w a0 3) = (nI 22)) : mX d 46 0 [.ref a0, .int x1, mJ] [] w = mX d 46 131 [.ref a0, mJ, .int (mI w a0 3)] [] w := by
  refine Eq.trans (X_st f_46_0 rfl rfl) ?_
  refine Eq.trans (X_getI f_46_1 h0 rfl) ?_
  refine Eq.trans (X_istore_n (L' := [.ref a0, .int x1, .int (mI w a0 3)]) f_46_4 (Nat.le_of_ble_eq_true rfl) rfl) ?_
  refine Eq.trans (X_st f_46_5 rfl rfl) ?_
  refine Eq.trans (X_sw f_46_6 rfl (congrArg Value.int h1) rfl) ?_
  exact mX_mask rfl
theorem s_46_0_23 {d : Nat} {a0 : Nat} {x1 : Int32} {w : MW} (h0 : mTg w a0 = 2) (h1 : (mI w a0 3) = (nI 23)) : mX d 46 0 [.ref a0, .int x1, mJ] [] w = mX d 46 131 [.ref a0, mJ, .int (mI w a0 3)] [] w := by
  refine Eq.trans (X_st f_46_0 rfl rfl) ?_
  refine Eq.trans (X_getI f_46_1 h0 rfl) ?_
  refine Eq.trans (X_istore_n (L' := [.ref a0, .int x1, .int (mI w a0 3)]) f_46_4 (Nat.le_of_ble_eq_true rfl) rfl) ?_
  refine Eq.trans (X_st f_46_5 rfl rfl) ?_
  refine Eq.trans (X_sw f_46_6 rfl (congrArg Value.int h1) rfl) ?_
  exact mX_mask rfl
theorem s_46_0_29 {d : Nat} {a0 : Nat} {x1 : Int32} {w : MW} (h0 : mTg w a0 = 2) (h1 : (mI w a0 3) = (nI 29)) : mX d 46 0 [.ref a0, .int x1, mJ] [] w = mX d 46 299 [.ref a0, .int x1, .int (mI w a0 3)] [] w := by
  refine Eq.trans (X_st f_46_0 rfl rfl) ?_
  refine Eq.trans (X_getI f_46_1 h0 rfl) ?_
  refine Eq.trans (X_istore_n (L' := [.ref a0, .int x1, .int (mI w a0 3)]) f_46_4 (Nat.le_of_ble_eq_true rfl) rfl) ?_
  refine Eq.trans (X_st f_46_5 rfl rfl) ?_
  refine Eq.trans (X_sw f_46_6 rfl (congrArg Value.int h1) rfl) ?_
  exact mX_mask rfl
theorem s_46_0_30 {d : Nat} {a0 : Nat} {x1 : Int32} {w : MW} (h0 : mTg w a0 = 2) (h1 : (mI w a0 3) = (nI 30)) : mX d 46 0 [.ref a0, .int x1, mJ] [] w = mX d 46 299 [.ref a0, .int x1, .int (mI w a0 3)] [] w := by
  refine Eq.trans (X_st f_46_0 rfl rfl) ?_
  refine Eq.trans (X_getI f_46_1 h0 rfl) ?_
  refine Eq.trans (X_istore_n (L' := [.ref a0, .int x1, .int (mI w a0 3)]) f_46_4 (Nat.le_of_ble_eq_true rfl) rfl) ?_
  refine Eq.trans (X_st f_46_5 rfl rfl) ?_
  refine Eq.trans (X_sw f_46_6 rfl (congrArg Value.int h1) rfl) ?_
  exact mX_mask rfl
theorem s_46_0_40 {d : Nat} {a0 : Nat} {x1 : Int32} {w : MW} (h0 : mTg w a0 = 2) (h1 : (mI w a0 3) = (nI 40)) : mX d 46 0 [.ref a0, .int x1, mJ] [] w = mX d 46 257 [.ref a0, .int x1, mJ] [] w := by
  refine Eq.trans (X_st f_46_0 rfl rfl) ?_
  refine Eq.trans (X_getI f_46_1 h0 rfl) ?_
  refine Eq.trans (X_istore_n (L' := [.ref a0, .int x1, .int (mI w a0 3)]) f_46_4 (Nat.le_of_ble_eq_true rfl) rfl) ?_
  refine Eq.trans (X_st f_46_5 rfl rfl) ?_
  refine Eq.trans (X_sw f_46_6 rfl (congrArg Value.int h1) rfl) ?_
  exact mX_mask rfl
theorem s_46_0_45 {d : Nat} {a0 : Nat} {x1 : Int32} {w : MW} (h0 : mTg w a0 = 2) (h1 : (mI w a0 3) = (nI 45)) : mX d 46 0 [.ref a0, .int x1, mJ] [] w = mX d 46 213 [.ref a0, .int x1, mJ] [] w := by
  refine Eq.trans (X_st f_46_0 rfl rfl) ?_
  refine Eq.trans (X_getI f_46_1 h0 rfl) ?_
  refine Eq.trans (X_istore_n (L' := [.ref a0, .int x1, .int (mI w a0 3)]) f_46_4 (Nat.le_of_ble_eq_true rfl) rfl) ?_
  refine Eq.trans (X_st f_46_5 rfl rfl) ?_
  refine Eq.trans (X_sw f_46_6 rfl (congrArg Value.int h1) rfl) ?_
  exact mX_mask rfl
theorem s_46_0_259 {d : Nat} {a0 : Nat} {x1 : Int32} {w : MW} (h0 : mTg w a0 = 2) (h1 : (mI w a0 3) = (nI 259)) : mX d 46 0 [.ref a0, .int x1, mJ] [] w = mX d 46 112 [.ref a0, mJ, .int (mI w a0 3)] [] w := by
  refine Eq.trans (X_st f_46_0 rfl rfl) ?_
  refine Eq.trans (X_getI f_46_1 h0 rfl) ?_
  refine Eq.trans (X_istore_n (L' := [.ref a0, .int x1, .int (mI w a0 3)]) f_46_4 (Nat.le_of_ble_eq_true rfl) rfl) ?_
  refine Eq.trans (X_st f_46_5 rfl rfl) ?_
  refine Eq.trans (X_sw f_46_6 rfl (congrArg Value.int h1) rfl) ?_
  exact mX_mask rfl
theorem s_46_0_d {d : Nat} {a0 : Nat} {x1 : Int32} {w : MW} (h0 : mTg w a0 = 2) (h1 : ¬ (5 : Int) = ((mI w a0 3)).toInt ∧ ¬ (9 : Int) = ((mI w a0 3)).toInt ∧ ¬ (19 : Int) = ((mI w a0 3)).toInt ∧ ¬ (20 : Int) = ((mI w a0 3)).toInt ∧ ¬ (21 : Int) = ((mI w a0 3)).toInt ∧ ¬ (22 : Int) = ((mI w a0 3)).toInt ∧ ¬ (23 : Int) = ((mI w a0 3)).toInt ∧ ¬ (29 : Int) = ((mI w a0 3)).toInt ∧ ¬ (30 : Int) = ((mI w a0 3)).toInt ∧ ¬ (40 : Int) = ((mI w a0 3)).toInt ∧ ¬ (45 : Int) = ((mI w a0 3)).toInt ∧ ¬ (259 : Int) = ((mI w a0 3)).toInt) : mX d 46 0 [.ref a0, .int x1, mJ] [] w = mX d 46 376 [mJ, mJ, mJ] [] w := by
  refine Eq.trans (X_st f_46_0 rfl rfl) ?_
  refine Eq.trans (X_getI f_46_1 h0 rfl) ?_
  refine Eq.trans (X_istore_n (L' := [.ref a0, .int x1, .int (mI w a0 3)]) f_46_4 (Nat.le_of_ble_eq_true rfl) rfl) ?_
  refine Eq.trans (X_st f_46_5 rfl rfl) ?_
  refine Eq.trans (X_st f_46_6 rfl (by simp only [mstep, mLook, List.drop, List.getD_eq_getElem?_getD, h1.1, h1.2.1, h1.2.2.1, h1.2.2.2.1, h1.2.2.2.2.1, h1.2.2.2.2.2.1, h1.2.2.2.2.2.2.1, h1.2.2.2.2.2.2.2.1, h1.2.2.2.2.2.2.2.2.1, h1.2.2.2.2.2.2.2.2.2.1, h1.2.2.2.2.2.2.2.2.2.2.1, h1.2.2.2.2.2.2.2.2.2.2.2, if_false]; rfl)) ?_
  exact mX_mask rfl
theorem e_46 {d : Nat} {a0 : Nat} {x1 : Int32} {w : MW} : mK d 46 [.ref a0, .int x1] w = mX d 46 0 [.ref a0, .int x1, mJ] [] w := rfl
theorem b_46_112 {d : Nat} {a0 : Nat} {x2 : Int32} {w : MW} (h0 : mTg w a0 = 2) (h1 : mR w a0 1 = some (gR w a0 1)) (h2 : mTg w (gR w a0 1) = 1) : mX (d + 1) 46 112 [.ref a0, mJ, .int x2] [] w = mThen (mK d 30 [.ref (gR w a0 1), .int x2, .int (mI w a0 2)] w) (fun v w9 => mX (d + 1) 46 124 [.ref a0, mJ, .int x2] (v.toList ++ []) w9) := by
  refine Eq.trans (X_st f_46_112 rfl rfl) ?_
  refine Eq.trans (X_getR f_46_113 h0 rfl h1) ?_
  refine Eq.trans (X_st f_46_116 rfl rfl) ?_
  refine Eq.trans (X_st f_46_117 rfl rfl) ?_
  refine Eq.trans (X_getI f_46_118 h0 rfl) ?_
  refine Eq.trans (X_call f_46_121 (by decide) rfl rfl rfl rfl rfl rfl (Nat.le_of_ble_eq_true rfl) (Nat.le_of_ble_eq_true rfl) (decide_eq_true h2) (Nat.le_of_ble_eq_true rfl)) ?_
  exact mThen_eq fun v w9 => mX_mask rfl
theorem b_46_124 {d : Nat} {a0 : Nat} {x2 : Int32} {w : MW} (h0 : mTg w a0 = 2) : mX (d + 1) 46 124 [.ref a0, mJ, .int x2] [] w = mThen (mK d 35 [.ref a0, .int x2, .int (nI 0)] w) (fun v w9 => mX (d + 1) 46 130 [mJ, mJ, mJ] (v.toList ++ []) w9) := by
  refine Eq.trans (X_st f_46_124 rfl rfl) ?_
  refine Eq.trans (X_st f_46_125 rfl rfl) ?_
  refine Eq.trans (X_iconst f_46_126 kc_i_0) ?_
  refine Eq.trans (X_call f_46_127 (by decide) rfl rfl rfl rfl rfl rfl (Nat.le_of_ble_eq_true rfl) (Nat.le_of_ble_eq_true rfl) (decide_eq_true h0) (Nat.le_of_ble_eq_true rfl)) ?_
  exact mThen_eq fun v w9 => mX_mask rfl
theorem b_46_130 {d : Nat} {y0 : Int32} {w : MW} (h0 : mRk 2 y0 = true) : mX d 46 130 [mJ, mJ, mJ] [.int y0] w = some (.inl (some (.int y0)), w) := by
  exact X_ireturn f_46_130 h0
theorem b_46_131 {d : Nat} {a0 : Nat} {x2 : Int32} {w : MW} (h0 : mTg w a0 = 2) (h1 : mR w a0 1 = some (gR w a0 1)) (h2 : mTg w (gR w a0 1) = 1) : mX (d + 1) 46 131 [.ref a0, mJ, .int x2] [] w = mThen (mK d 30 [.ref (gR w a0 1), .int x2, .int ((mI w a0 2) + (nI 1))] w) (fun v w9 => mX (d + 1) 46 145 [.ref a0, mJ, .int x2] (v.toList ++ []) w9) := by
  refine Eq.trans (X_st f_46_131 rfl rfl) ?_
  refine Eq.trans (X_getR f_46_132 h0 rfl h1) ?_
  refine Eq.trans (X_st f_46_135 rfl rfl) ?_
  refine Eq.trans (X_st f_46_136 rfl rfl) ?_
  refine Eq.trans (X_getI f_46_137 h0 rfl) ?_
  refine Eq.trans (X_iconst f_46_140 kc_i_1) ?_
  refine Eq.trans (X_st f_46_141 rfl rfl) ?_
  refine Eq.trans (X_call f_46_142 (by decide) rfl rfl rfl rfl rfl rfl (Nat.le_of_ble_eq_true rfl) (Nat.le_of_ble_eq_true rfl) (decide_eq_true h2) (Nat.le_of_ble_eq_true rfl)) ?_
  exact mThen_eq fun v w9 => mX_mask rfl
theorem b_46_145 {d : Nat} {a0 : Nat} {x2 : Int32} {w : MW} (h0 : mTg w a0 = 2) : mX (d + 1) 46 145 [.ref a0, mJ, .int x2] [] w = mThen (mK d 35 [.ref a0, .int x2, .int (nI 0)] w) (fun v w9 => mX (d + 1) 46 151 [.ref a0, mJ, mJ] (v.toList ++ []) w9) := by
  refine Eq.trans (X_st f_46_145 rfl rfl) ?_
  refine Eq.trans (X_st f_46_146 rfl rfl) ?_
  refine Eq.trans (X_iconst f_46_147 kc_i_0) ?_
  refine Eq.trans (X_call f_46_148 (by decide) rfl rfl rfl rfl rfl rfl (Nat.le_of_ble_eq_true rfl) (Nat.le_of_ble_eq_true rfl) (decide_eq_true h0) (Nat.le_of_ble_eq_true rfl)) ?_
  exact mThen_eq fun v w9 => mX_mask rfl
theorem b_46_151 {d : Nat} {a0 : Nat} {y0 : Int32} {w : MW} : mX d 46 151 [.ref a0, mJ, mJ] [.int y0] w = (if y0 = nI 0 then mX d 46 170 [mJ, mJ, mJ] [] w else mX d 46 154 [.ref a0, mJ, mJ] [] w) := by
  refine Eq.trans (X_br f_46_151 rfl rfl) ?_
  exact mIte_eq (mX_mask rfl) (mX_mask rfl)
theorem b_46_154 {d : Nat} {a0 : Nat} {w : MW} (h0 : mTg w a0 = 2) : mX (d + 1) 46 154 [.ref a0, mJ, mJ] [] w = mThen (mK d 35 [.ref a0, .int (nI 258), .int (nI 12)] w) (fun v w9 => mX (d + 1) 46 163 [mJ, mJ, mJ] (v.toList ++ []) w9) := by
  refine Eq.trans (X_st f_46_154 rfl rfl) ?_
  refine Eq.trans (X_sipush f_46_155 kc_s_258) ?_
  refine Eq.trans (X_bipush f_46_158 kc_b_12) ?_
  refine Eq.trans (X_call f_46_160 (by decide) rfl rfl rfl rfl rfl rfl (Nat.le_of_ble_eq_true rfl) (Nat.le_of_ble_eq_true rfl) (decide_eq_true h0) (Nat.le_of_ble_eq_true rfl)) ?_
  exact mThen_eq fun v w9 => mX_mask rfl
theorem b_46_163 {d : Nat} {y0 : Int32} {w : MW} : mX d 46 163 [mJ, mJ, mJ] [.int y0] w = (if y0 = nI 0 then mX d 46 170 [mJ, mJ, mJ] [] w else mX d 46 166 [mJ, mJ, mJ] [] w) := by
  refine Eq.trans (X_br f_46_163 rfl rfl) ?_
  exact mIte_eq (mX_mask rfl) (mX_mask rfl)
theorem b_46_166 {d : Nat} {w : MW} : mX d 46 166 [mJ, mJ, mJ] [] w = mX d 46 171 [mJ, mJ, mJ] [.int (nI 1)] w := by
  refine Eq.trans (X_iconst f_46_166 kc_i_1) ?_
  refine Eq.trans (X_st f_46_167 rfl rfl) ?_
  exact mX_mask rfl
theorem b_46_170 {d : Nat} {w : MW} : mX d 46 170 [mJ, mJ, mJ] [] w = mX d 46 171 [mJ, mJ, mJ] [.int (nI 0)] w := by
  refine Eq.trans (X_iconst f_46_170 kc_i_0) ?_
  exact mX_mask rfl
theorem b_46_171 {d : Nat} {y0 : Int32} {w : MW} (h0 : mRk 2 y0 = true) : mX d 46 171 [mJ, mJ, mJ] [.int y0] w = some (.inl (some (.int y0)), w) := by
  exact X_ireturn f_46_171 h0
theorem b_46_172 {d : Nat} {a0 : Nat} {x2 : Int32} {w : MW} (h0 : mTg w a0 = 2) (h1 : mR w a0 1 = some (gR w a0 1)) (h2 : mTg w (gR w a0 1) = 1) : mX (d + 1) 46 172 [.ref a0, mJ, .int x2] [] w = mThen (mK d 30 [.ref (gR w a0 1), .int x2, .int ((mI w a0 2) + (nI 1))] w) (fun v w9 => mX (d + 1) 46 186 [.ref a0, mJ, .int x2] (v.toList ++ []) w9) := by
  refine Eq.trans (X_st f_46_172 rfl rfl) ?_
  refine Eq.trans (X_getR f_46_173 h0 rfl h1) ?_
  refine Eq.trans (X_st f_46_176 rfl rfl) ?_
  refine Eq.trans (X_st f_46_177 rfl rfl) ?_
  refine Eq.trans (X_getI f_46_178 h0 rfl) ?_
  refine Eq.trans (X_iconst f_46_181 kc_i_1) ?_
  refine Eq.trans (X_st f_46_182 rfl rfl) ?_
  refine Eq.trans (X_call f_46_183 (by decide) rfl rfl rfl rfl rfl rfl (Nat.le_of_ble_eq_true rfl) (Nat.le_of_ble_eq_true rfl) (decide_eq_true h2) (Nat.le_of_ble_eq_true rfl)) ?_
  exact mThen_eq fun v w9 => mX_mask rfl
theorem b_46_186 {d : Nat} {a0 : Nat} {x2 : Int32} {w : MW} (h0 : mTg w a0 = 2) : mX (d + 1) 46 186 [.ref a0, mJ, .int x2] [] w = mThen (mK d 35 [.ref a0, .int x2, .int (nI 0)] w) (fun v w9 => mX (d + 1) 46 192 [.ref a0, mJ, mJ] (v.toList ++ []) w9) := by
  refine Eq.trans (X_st f_46_186 rfl rfl) ?_
  refine Eq.trans (X_st f_46_187 rfl rfl) ?_
  refine Eq.trans (X_iconst f_46_188 kc_i_0) ?_
  refine Eq.trans (X_call f_46_189 (by decide) rfl rfl rfl rfl rfl rfl (Nat.le_of_ble_eq_true rfl) (Nat.le_of_ble_eq_true rfl) (decide_eq_true h0) (Nat.le_of_ble_eq_true rfl)) ?_
  exact mThen_eq fun v w9 => mX_mask rfl
theorem b_46_192 {d : Nat} {a0 : Nat} {y0 : Int32} {w : MW} : mX d 46 192 [.ref a0, mJ, mJ] [.int y0] w = (if y0 = nI 0 then mX d 46 211 [mJ, mJ, mJ] [] w else mX d 46 195 [.ref a0, mJ, mJ] [] w) := by
  refine Eq.trans (X_br f_46_192 rfl rfl) ?_
  exact mIte_eq (mX_mask rfl) (mX_mask rfl)
theorem b_46_195 {d : Nat} {a0 : Nat} {w : MW} (h0 : mTg w a0 = 2) : mX (d + 1) 46 195 [.ref a0, mJ, mJ] [] w = mThen (mK d 35 [.ref a0, .int (nI 258), .int (nI 13)] w) (fun v w9 => mX (d + 1) 46 204 [mJ, mJ, mJ] (v.toList ++ []) w9) := by
  refine Eq.trans (X_st f_46_195 rfl rfl) ?_
  refine Eq.trans (X_sipush f_46_196 kc_s_258) ?_
  refine Eq.trans (X_bipush f_46_199 kc_b_13) ?_
  refine Eq.trans (X_call f_46_201 (by decide) rfl rfl rfl rfl rfl rfl (Nat.le_of_ble_eq_true rfl) (Nat.le_of_ble_eq_true rfl) (decide_eq_true h0) (Nat.le_of_ble_eq_true rfl)) ?_
  exact mThen_eq fun v w9 => mX_mask rfl
theorem b_46_204 {d : Nat} {y0 : Int32} {w : MW} : mX d 46 204 [mJ, mJ, mJ] [.int y0] w = (if y0 = nI 0 then mX d 46 211 [mJ, mJ, mJ] [] w else mX d 46 207 [mJ, mJ, mJ] [] w) := by
  refine Eq.trans (X_br f_46_204 rfl rfl) ?_
  exact mIte_eq (mX_mask rfl) (mX_mask rfl)
theorem b_46_207 {d : Nat} {w : MW} : mX d 46 207 [mJ, mJ, mJ] [] w = mX d 46 212 [mJ, mJ, mJ] [.int (nI 1)] w := by
  refine Eq.trans (X_iconst f_46_207 kc_i_1) ?_
  refine Eq.trans (X_st f_46_208 rfl rfl) ?_
  exact mX_mask rfl
theorem b_46_211 {d : Nat} {w : MW} : mX d 46 211 [mJ, mJ, mJ] [] w = mX d 46 212 [mJ, mJ, mJ] [.int (nI 0)] w := by
  refine Eq.trans (X_iconst f_46_211 kc_i_0) ?_
  exact mX_mask rfl
theorem b_46_212 {d : Nat} {y0 : Int32} {w : MW} (h0 : mRk 2 y0 = true) : mX d 46 212 [mJ, mJ, mJ] [.int y0] w = some (.inl (some (.int y0)), w) := by
  exact X_ireturn f_46_212 h0
theorem b_46_213 {d : Nat} {a0 : Nat} {x1 : Int32} {w : MW} : mX d 46 213 [.ref a0, .int x1, mJ] [] w = (if (nI 8) ≤ x1 then mX d 46 239 [mJ, mJ, mJ] [] w else mX d 46 219 [.ref a0, .int x1, mJ] [] w) := by
  refine Eq.trans (X_st f_46_213 rfl rfl) ?_
  refine Eq.trans (X_bipush f_46_214 kc_b_8) ?_
  refine Eq.trans (X_br f_46_216 rfl rfl) ?_
  exact mIte_eq (mX_mask rfl) (mX_mask rfl)
theorem b_46_219 {d : Nat} {a0 : Nat} {x1 : Int32} {w : MW} (h0 : mTg w a0 = 2) : mX (d + 1) 46 219 [.ref a0, .int x1, mJ] [] w = mThen (mK d 35 [.ref a0, .int (nI 45), .int (nI 0)] w) (fun v w9 => mX (d + 1) 46 226 [.ref a0, .int x1, mJ] (v.toList ++ []) w9) := by
  refine Eq.trans (X_st f_46_219 rfl rfl) ?_
  refine Eq.trans (X_bipush f_46_220 kc_b_45) ?_
  refine Eq.trans (X_iconst f_46_222 kc_i_0) ?_
  refine Eq.trans (X_call f_46_223 (by decide) rfl rfl rfl rfl rfl rfl (Nat.le_of_ble_eq_true rfl) (Nat.le_of_ble_eq_true rfl) (decide_eq_true h0) (Nat.le_of_ble_eq_true rfl)) ?_
  exact mThen_eq fun v w9 => mX_mask rfl
theorem b_46_226 {d : Nat} {a0 : Nat} {x1 : Int32} {y0 : Int32} {w : MW} : mX d 46 226 [.ref a0, .int x1, mJ] [.int y0] w = (if y0 = nI 0 then mX d 46 239 [mJ, mJ, mJ] [] w else mX d 46 229 [.ref a0, .int x1, mJ] [] w) := by
  refine Eq.trans (X_br f_46_226 rfl rfl) ?_
  exact mIte_eq (mX_mask rfl) (mX_mask rfl)
theorem b_46_229 {d : Nat} {a0 : Nat} {x1 : Int32} {w : MW} (h0 : mTg w a0 = 2) : mX (d + 1) 46 229 [.ref a0, .int x1, mJ] [] w = mThen (mK d 46 [.ref a0, .int (x1 + (nI 1))] w) (fun v w9 => mX (d + 1) 46 236 [.ref a0, mJ, mJ] (v.toList ++ []) w9) := by
  refine Eq.trans (X_st f_46_229 rfl rfl) ?_
  refine Eq.trans (X_st f_46_230 rfl rfl) ?_
  refine Eq.trans (X_iconst f_46_231 kc_i_1) ?_
  refine Eq.trans (X_st f_46_232 rfl rfl) ?_
  refine Eq.trans (X_call f_46_233 (by decide) rfl rfl rfl rfl rfl rfl (Nat.le_of_ble_eq_true rfl) (Nat.le_of_ble_eq_true rfl) (decide_eq_true h0) (Nat.le_of_ble_eq_true rfl)) ?_
  exact mThen_eq fun v w9 => mX_mask rfl
theorem b_46_236 {d : Nat} {a0 : Nat} {y0 : Int32} {w : MW} : mX d 46 236 [.ref a0, mJ, mJ] [.int y0] w = (if ¬ y0 = nI 0 then mX d 46 241 [.ref a0, mJ, mJ] [] w else mX d 46 239 [mJ, mJ, mJ] [] w) := by
  refine Eq.trans (X_br f_46_236 rfl rfl) ?_
  exact mIte_eq (mX_mask rfl) (mX_mask rfl)
theorem b_46_239 {d : Nat} {w : MW} : mX d 46 239 [mJ, mJ, mJ] [] w = some (.inl (some (.int (nI 0))), w) := by
  refine Eq.trans (X_iconst f_46_239 kc_i_0) ?_
  exact X_ireturn f_46_240 rfl
theorem b_46_241 {d : Nat} {a0 : Nat} {w : MW} (h0 : mTg w a0 = 2) (h1 : mR w a0 1 = some (gR w a0 1)) (h2 : mTg w (gR w a0 1) = 1) : mX (d + 1) 46 241 [.ref a0, mJ, mJ] [] w = mThen (mK d 30 [.ref (gR w a0 1), .int (nI 262), .int (mI w a0 2)] w) (fun v w9 => mX (d + 1) 46 255 [mJ, mJ, mJ] (v.toList ++ []) w9) := by
  refine Eq.trans (X_st f_46_241 rfl rfl) ?_
  refine Eq.trans (X_getR f_46_242 h0 rfl h1) ?_
  refine Eq.trans (X_sipush f_46_245 kc_s_262) ?_
  refine Eq.trans (X_st f_46_248 rfl rfl) ?_
  refine Eq.trans (X_getI f_46_249 h0 rfl) ?_
  refine Eq.trans (X_call f_46_252 (by decide) rfl rfl rfl rfl rfl rfl (Nat.le_of_ble_eq_true rfl) (Nat.le_of_ble_eq_true rfl) (decide_eq_true h2) (Nat.le_of_ble_eq_true rfl)) ?_
  exact mThen_eq fun v w9 => mX_mask rfl
theorem b_46_255 {d : Nat} {w : MW} : mX d 46 255 [mJ, mJ, mJ] [] w = some (.inl (some (.int (nI 1))), w) := by
  refine Eq.trans (X_iconst f_46_255 kc_i_1) ?_
  exact X_ireturn f_46_256 rfl
theorem b_46_257 {d : Nat} {a0 : Nat} {x1 : Int32} {w : MW} : mX d 46 257 [.ref a0, .int x1, mJ] [] w = (if (nI 8) ≤ x1 then mX d 46 297 [mJ, mJ, mJ] [] w else mX d 46 263 [.ref a0, .int x1, mJ] [] w) := by
  refine Eq.trans (X_st f_46_257 rfl rfl) ?_
  refine Eq.trans (X_bipush f_46_258 kc_b_8) ?_
  refine Eq.trans (X_br f_46_260 rfl rfl) ?_
  exact mIte_eq (mX_mask rfl) (mX_mask rfl)
theorem b_46_263 {d : Nat} {a0 : Nat} {x1 : Int32} {w : MW} (h0 : mTg w a0 = 2) : mX (d + 1) 46 263 [.ref a0, .int x1, mJ] [] w = mThen (mK d 35 [.ref a0, .int (nI 40), .int (nI 0)] w) (fun v w9 => mX (d + 1) 46 270 [.ref a0, .int x1, mJ] (v.toList ++ []) w9) := by
  refine Eq.trans (X_st f_46_263 rfl rfl) ?_
  refine Eq.trans (X_bipush f_46_264 kc_b_40) ?_
  refine Eq.trans (X_iconst f_46_266 kc_i_0) ?_
  refine Eq.trans (X_call f_46_267 (by decide) rfl rfl rfl rfl rfl rfl (Nat.le_of_ble_eq_true rfl) (Nat.le_of_ble_eq_true rfl) (decide_eq_true h0) (Nat.le_of_ble_eq_true rfl)) ?_
  exact mThen_eq fun v w9 => mX_mask rfl
theorem b_46_270 {d : Nat} {a0 : Nat} {x1 : Int32} {y0 : Int32} {w : MW} : mX d 46 270 [.ref a0, .int x1, mJ] [.int y0] w = (if y0 = nI 0 then mX d 46 297 [mJ, mJ, mJ] [] w else mX d 46 273 [.ref a0, .int x1, mJ] [] w) := by
  refine Eq.trans (X_br f_46_270 rfl rfl) ?_
  exact mIte_eq (mX_mask rfl) (mX_mask rfl)
theorem b_46_273 {d : Nat} {a0 : Nat} {x1 : Int32} {w : MW} (h0 : mTg w a0 = 2) : mX (d + 1) 46 273 [.ref a0, .int x1, mJ] [] w = mThen (mK d 44 [.ref a0, .int (x1 + (nI 1))] w) (fun v w9 => mX (d + 1) 46 280 [.ref a0, mJ, mJ] (v.toList ++ []) w9) := by
  refine Eq.trans (X_st f_46_273 rfl rfl) ?_
  refine Eq.trans (X_st f_46_274 rfl rfl) ?_
  refine Eq.trans (X_iconst f_46_275 kc_i_1) ?_
  refine Eq.trans (X_st f_46_276 rfl rfl) ?_
  refine Eq.trans (X_call f_46_277 (by decide) rfl rfl rfl rfl rfl rfl (Nat.le_of_ble_eq_true rfl) (Nat.le_of_ble_eq_true rfl) (decide_eq_true h0) (Nat.le_of_ble_eq_true rfl)) ?_
  exact mThen_eq fun v w9 => mX_mask rfl
theorem b_46_280 {d : Nat} {a0 : Nat} {y0 : Int32} {w : MW} : mX d 46 280 [.ref a0, mJ, mJ] [.int y0] w = (if y0 = nI 0 then mX d 46 297 [mJ, mJ, mJ] [] w else mX d 46 283 [.ref a0, mJ, mJ] [] w) := by
  refine Eq.trans (X_br f_46_280 rfl rfl) ?_
  exact mIte_eq (mX_mask rfl) (mX_mask rfl)
theorem b_46_283 {d : Nat} {a0 : Nat} {w : MW} (h0 : mTg w a0 = 2) : mX (d + 1) 46 283 [.ref a0, mJ, mJ] [] w = mThen (mK d 35 [.ref a0, .int (nI 41), .int (nI 0)] w) (fun v w9 => mX (d + 1) 46 290 [mJ, mJ, mJ] (v.toList ++ []) w9) := by
  refine Eq.trans (X_st f_46_283 rfl rfl) ?_
  refine Eq.trans (X_bipush f_46_284 kc_b_41) ?_
  refine Eq.trans (X_iconst f_46_286 kc_i_0) ?_
  refine Eq.trans (X_call f_46_287 (by decide) rfl rfl rfl rfl rfl rfl (Nat.le_of_ble_eq_true rfl) (Nat.le_of_ble_eq_true rfl) (decide_eq_true h0) (Nat.le_of_ble_eq_true rfl)) ?_
  exact mThen_eq fun v w9 => mX_mask rfl
theorem b_46_290 {d : Nat} {y0 : Int32} {w : MW} : mX d 46 290 [mJ, mJ, mJ] [.int y0] w = (if y0 = nI 0 then mX d 46 297 [mJ, mJ, mJ] [] w else mX d 46 293 [mJ, mJ, mJ] [] w) := by
  refine Eq.trans (X_br f_46_290 rfl rfl) ?_
  exact mIte_eq (mX_mask rfl) (mX_mask rfl)
theorem b_46_293 {d : Nat} {w : MW} : mX d 46 293 [mJ, mJ, mJ] [] w = mX d 46 298 [mJ, mJ, mJ] [.int (nI 1)] w := by
  refine Eq.trans (X_iconst f_46_293 kc_i_1) ?_
  refine Eq.trans (X_st f_46_294 rfl rfl) ?_
  exact mX_mask rfl
theorem b_46_297 {d : Nat} {w : MW} : mX d 46 297 [mJ, mJ, mJ] [] w = mX d 46 298 [mJ, mJ, mJ] [.int (nI 0)] w := by
  refine Eq.trans (X_iconst f_46_297 kc_i_0) ?_
  exact mX_mask rfl
theorem b_46_298 {d : Nat} {y0 : Int32} {w : MW} (h0 : mRk 2 y0 = true) : mX d 46 298 [mJ, mJ, mJ] [.int y0] w = some (.inl (some (.int y0)), w) := by
  exact X_ireturn f_46_298 h0
theorem b_46_299 {d : Nat} {a0 : Nat} {x1 : Int32} {x2 : Int32} {w : MW} (h0 : mTg w a0 = 2) : mX (d + 1) 46 299 [.ref a0, .int x1, .int x2] [] w = mThen (mK d 35 [.ref a0, .int x2, .int (nI 0)] w) (fun v w9 => mX (d + 1) 46 305 [.ref a0, .int x1, .int x2] (v.toList ++ []) w9) := by
  refine Eq.trans (X_st f_46_299 rfl rfl) ?_
  refine Eq.trans (X_st f_46_300 rfl rfl) ?_
  refine Eq.trans (X_iconst f_46_301 kc_i_0) ?_
  refine Eq.trans (X_call f_46_302 (by decide) rfl rfl rfl rfl rfl rfl (Nat.le_of_ble_eq_true rfl) (Nat.le_of_ble_eq_true rfl) (decide_eq_true h0) (Nat.le_of_ble_eq_true rfl)) ?_
  exact mThen_eq fun v w9 => mX_mask rfl
theorem b_46_305 {d : Nat} {a0 : Nat} {x1 : Int32} {x2 : Int32} {y0 : Int32} {w : MW} : mX d 46 305 [.ref a0, .int x1, .int x2] [.int y0] w = (if y0 = nI 0 then mX d 46 354 [mJ, mJ, mJ] [] w else mX d 46 308 [.ref a0, .int x1, .int x2] [] w) := by
  refine Eq.trans (X_br f_46_305 rfl rfl) ?_
  exact mIte_eq (mX_mask rfl) (mX_mask rfl)
theorem b_46_308 {d : Nat} {a0 : Nat} {x1 : Int32} {x2 : Int32} {w : MW} : mX d 46 308 [.ref a0, .int x1, .int x2] [] w = (if (nI 8) ≤ x1 then mX d 46 354 [mJ, mJ, mJ] [] w else mX d 46 314 [.ref a0, .int x1, .int x2] [] w) := by
  refine Eq.trans (X_st f_46_308 rfl rfl) ?_
  refine Eq.trans (X_bipush f_46_309 kc_b_8) ?_
  refine Eq.trans (X_br f_46_311 rfl rfl) ?_
  exact mIte_eq (mX_mask rfl) (mX_mask rfl)
theorem b_46_314 {d : Nat} {a0 : Nat} {x1 : Int32} {x2 : Int32} {w : MW} (h0 : mTg w a0 = 2) : mX (d + 1) 46 314 [.ref a0, .int x1, .int x2] [] w = mThen (mK d 35 [.ref a0, .int (nI 40), .int (nI 0)] w) (fun v w9 => mX (d + 1) 46 321 [.ref a0, .int x1, .int x2] (v.toList ++ []) w9) := by
  refine Eq.trans (X_st f_46_314 rfl rfl) ?_
  refine Eq.trans (X_bipush f_46_315 kc_b_40) ?_
  refine Eq.trans (X_iconst f_46_317 kc_i_0) ?_
  refine Eq.trans (X_call f_46_318 (by decide) rfl rfl rfl rfl rfl rfl (Nat.le_of_ble_eq_true rfl) (Nat.le_of_ble_eq_true rfl) (decide_eq_true h0) (Nat.le_of_ble_eq_true rfl)) ?_
  exact mThen_eq fun v w9 => mX_mask rfl
theorem b_46_321 {d : Nat} {a0 : Nat} {x1 : Int32} {x2 : Int32} {y0 : Int32} {w : MW} : mX d 46 321 [.ref a0, .int x1, .int x2] [.int y0] w = (if y0 = nI 0 then mX d 46 354 [mJ, mJ, mJ] [] w else mX d 46 324 [.ref a0, .int x1, .int x2] [] w) := by
  refine Eq.trans (X_br f_46_321 rfl rfl) ?_
  exact mIte_eq (mX_mask rfl) (mX_mask rfl)
theorem b_46_324 {d : Nat} {a0 : Nat} {x1 : Int32} {x2 : Int32} {w : MW} (h0 : mTg w a0 = 2) : mX (d + 1) 46 324 [.ref a0, .int x1, .int x2] [] w = mThen (mK d 44 [.ref a0, .int (x1 + (nI 1))] w) (fun v w9 => mX (d + 1) 46 331 [.ref a0, .int x1, .int x2] (v.toList ++ []) w9) := by
  refine Eq.trans (X_st f_46_324 rfl rfl) ?_
  refine Eq.trans (X_st f_46_325 rfl rfl) ?_
  refine Eq.trans (X_iconst f_46_326 kc_i_1) ?_
  refine Eq.trans (X_st f_46_327 rfl rfl) ?_
  refine Eq.trans (X_call f_46_328 (by decide) rfl rfl rfl rfl rfl rfl (Nat.le_of_ble_eq_true rfl) (Nat.le_of_ble_eq_true rfl) (decide_eq_true h0) (Nat.le_of_ble_eq_true rfl)) ?_
  exact mThen_eq fun v w9 => mX_mask rfl
theorem b_46_331 {d : Nat} {a0 : Nat} {x1 : Int32} {x2 : Int32} {y0 : Int32} {w : MW} : mX d 46 331 [.ref a0, .int x1, .int x2] [.int y0] w = (if y0 = nI 0 then mX d 46 354 [mJ, mJ, mJ] [] w else mX d 46 334 [.ref a0, .int x1, .int x2] [] w) := by
  refine Eq.trans (X_br f_46_331 rfl rfl) ?_
  exact mIte_eq (mX_mask rfl) (mX_mask rfl)
theorem b_46_334 {d : Nat} {a0 : Nat} {x1 : Int32} {x2 : Int32} {w : MW} (h0 : mTg w a0 = 2) : mX (d + 1) 46 334 [.ref a0, .int x1, .int x2] [] w = mThen (mK d 35 [.ref a0, .int (nI 44), .int (nI 0)] w) (fun v w9 => mX (d + 1) 46 341 [.ref a0, .int x1, .int x2] (v.toList ++ []) w9) := by
  refine Eq.trans (X_st f_46_334 rfl rfl) ?_
  refine Eq.trans (X_bipush f_46_335 kc_b_44) ?_
  refine Eq.trans (X_iconst f_46_337 kc_i_0) ?_
  refine Eq.trans (X_call f_46_338 (by decide) rfl rfl rfl rfl rfl rfl (Nat.le_of_ble_eq_true rfl) (Nat.le_of_ble_eq_true rfl) (decide_eq_true h0) (Nat.le_of_ble_eq_true rfl)) ?_
  exact mThen_eq fun v w9 => mX_mask rfl
theorem b_46_341 {d : Nat} {a0 : Nat} {x1 : Int32} {x2 : Int32} {y0 : Int32} {w : MW} : mX d 46 341 [.ref a0, .int x1, .int x2] [.int y0] w = (if y0 = nI 0 then mX d 46 354 [mJ, mJ, mJ] [] w else mX d 46 344 [.ref a0, .int x1, .int x2] [] w) := by
  refine Eq.trans (X_br f_46_341 rfl rfl) ?_
  exact mIte_eq (mX_mask rfl) (mX_mask rfl)
theorem b_46_344 {d : Nat} {a0 : Nat} {x1 : Int32} {x2 : Int32} {w : MW} (h0 : mTg w a0 = 2) : mX (d + 1) 46 344 [.ref a0, .int x1, .int x2] [] w = mThen (mK d 44 [.ref a0, .int (x1 + (nI 1))] w) (fun v w9 => mX (d + 1) 46 351 [.ref a0, mJ, .int x2] (v.toList ++ []) w9) := by
  refine Eq.trans (X_st f_46_344 rfl rfl) ?_
  refine Eq.trans (X_st f_46_345 rfl rfl) ?_
  refine Eq.trans (X_iconst f_46_346 kc_i_1) ?_
  refine Eq.trans (X_st f_46_347 rfl rfl) ?_
  refine Eq.trans (X_call f_46_348 (by decide) rfl rfl rfl rfl rfl rfl (Nat.le_of_ble_eq_true rfl) (Nat.le_of_ble_eq_true rfl) (decide_eq_true h0) (Nat.le_of_ble_eq_true rfl)) ?_
  exact mThen_eq fun v w9 => mX_mask rfl
theorem b_46_351 {d : Nat} {a0 : Nat} {x2 : Int32} {y0 : Int32} {w : MW} : mX d 46 351 [.ref a0, mJ, .int x2] [.int y0] w = (if ¬ y0 = nI 0 then mX d 46 356 [.ref a0, mJ, .int x2] [] w else mX d 46 354 [mJ, mJ, mJ] [] w) := by
  refine Eq.trans (X_br f_46_351 rfl rfl) ?_
  exact mIte_eq (mX_mask rfl) (mX_mask rfl)
theorem b_46_354 {d : Nat} {w : MW} : mX d 46 354 [mJ, mJ, mJ] [] w = some (.inl (some (.int (nI 0))), w) := by
  refine Eq.trans (X_iconst f_46_354 kc_i_0) ?_
  exact X_ireturn f_46_355 rfl
theorem b_46_356 {d : Nat} {a0 : Nat} {x2 : Int32} {w : MW} (h0 : mTg w a0 = 2) (h1 : mR w a0 1 = some (gR w a0 1)) (h2 : mTg w (gR w a0 1) = 1) : mX (d + 1) 46 356 [.ref a0, mJ, .int x2] [] w = mThen (mK d 30 [.ref (gR w a0 1), .int x2, .int (mI w a0 2)] w) (fun v w9 => mX (d + 1) 46 368 [.ref a0, mJ, mJ] (v.toList ++ []) w9) := by
  refine Eq.trans (X_st f_46_356 rfl rfl) ?_
  refine Eq.trans (X_getR f_46_357 h0 rfl h1) ?_
  refine Eq.trans (X_st f_46_360 rfl rfl) ?_
  refine Eq.trans (X_st f_46_361 rfl rfl) ?_
  refine Eq.trans (X_getI f_46_362 h0 rfl) ?_
  refine Eq.trans (X_call f_46_365 (by decide) rfl rfl rfl rfl rfl rfl (Nat.le_of_ble_eq_true rfl) (Nat.le_of_ble_eq_true rfl) (decide_eq_true h2) (Nat.le_of_ble_eq_true rfl)) ?_
  exact mThen_eq fun v w9 => mX_mask rfl
theorem b_46_368 {d : Nat} {a0 : Nat} {w : MW} (h0 : mTg w a0 = 2) : mX (d + 1) 46 368 [.ref a0, mJ, mJ] [] w = mThen (mK d 35 [.ref a0, .int (nI 41), .int (nI 0)] w) (fun v w9 => mX (d + 1) 46 375 [mJ, mJ, mJ] (v.toList ++ []) w9) := by
  refine Eq.trans (X_st f_46_368 rfl rfl) ?_
  refine Eq.trans (X_bipush f_46_369 kc_b_41) ?_
  refine Eq.trans (X_iconst f_46_371 kc_i_0) ?_
  refine Eq.trans (X_call f_46_372 (by decide) rfl rfl rfl rfl rfl rfl (Nat.le_of_ble_eq_true rfl) (Nat.le_of_ble_eq_true rfl) (decide_eq_true h0) (Nat.le_of_ble_eq_true rfl)) ?_
  exact mThen_eq fun v w9 => mX_mask rfl
theorem b_46_375 {d : Nat} {y0 : Int32} {w : MW} (h0 : mRk 2 y0 = true) : mX d 46 375 [mJ, mJ, mJ] [.int y0] w = some (.inl (some (.int y0)), w) := by
  exact X_ireturn f_46_375 h0
theorem b_46_376 {d : Nat} {w : MW} : mX d 46 376 [mJ, mJ, mJ] [] w = some (.inl (some (.int (nI 0))), w) := by
  refine Eq.trans (X_iconst f_46_376 kc_i_0) ?_
  exact X_ireturn f_46_377 rfl
/-! BeeTurnpike$Reckoner <init> ()V -/
theorem f_47_0 : mFetch 47 0 = some (.aload_n 0, 1, []) := by decide +kernel
theorem f_47_1 : mFetch 47 1 = some (.invokespecial 3, 3, [1002, 320]) := by decide +kernel
theorem f_47_4 : mFetch 47 4 = some (.aload_n 0, 1, []) := by decide +kernel
theorem f_47_5 : mFetch 47 5 = some (.bipush 64, 2, []) := by decide +kernel
theorem f_47_7 : mFetch 47 7 = some (.newarray .int, 2, [50]) := by decide +kernel
theorem f_47_9 : mFetch 47 9 = some (.putfield 9, 3, [3, 0, 0, 321]) := by decide +kernel
theorem f_47_12 : mFetch 47 12 = some (.return_, 1, []) := by decide +kernel
theorem b_47_0 {d : Nat} {a0 : Nat} {w : MW} (h0 : mE ≤ a0) (h1 : mTg (wN w 50 64 64) a0 = 3) : mX d 47 0 [.ref a0] [] w = some (.inl none, wR (wN w 50 64 64) a0 0 (some (mSz w))) := by
  refine Eq.trans (X_st f_47_0 rfl rfl) ?_
  refine Eq.trans (X_st f_47_1 rfl (if_pos ⟨h0, Nat.le_of_ble_eq_true rfl⟩)) ?_
  refine Eq.trans (X_st f_47_4 rfl rfl) ?_
  refine Eq.trans (X_bipush f_47_5 kc_b_64) ?_
  refine Eq.trans (X_newa f_47_7 kn_64 kl_64 (Nat.le_of_ble_eq_true rfl)) ?_
  refine Eq.trans (X_putR f_47_9 h1 h0 rfl) ?_
  exact X_ret f_47_12 rfl rfl
theorem e_47 {d : Nat} {a0 : Nat} {w : MW} : mK d 47 [.ref a0] w = mX d 47 0 [.ref a0] [] w := rfl
/-! BeeTurnpike$Reckoner holds (LBeeTurnpike$Bee;I)Z -/
theorem f_48_0 : mFetch 48 0 = some (.aload_n 1, 1, []) := by decide +kernel
theorem f_48_1 : mFetch 48 1 = some (.getfield 15, 3, [0, 0, 1, 45]) := by decide +kernel
theorem f_48_4 : mFetch 48 4 = some (.astore_n 3, 1, []) := by decide +kernel
theorem f_48_5 : mFetch 48 5 = some (.aload_n 1, 1, []) := by decide +kernel
theorem f_48_6 : mFetch 48 6 = some (.invokevirtual 21, 3, [5, 1, 2, 0, 682, 554, 555]) := by decide +kernel
theorem f_48_9 : mFetch 48 9 = some (.istore 4, 2, []) := by decide +kernel
theorem f_48_11 : mFetch 48 11 = some (.aload_n 0, 1, []) := by decide +kernel
theorem f_48_12 : mFetch 48 12 = some (.iconst 0, 1, []) := by decide +kernel
theorem f_48_13 : mFetch 48 13 = some (.putfield 25, 3, [3, 1, 0, 322]) := by decide +kernel
theorem f_48_16 : mFetch 48 16 = some (.aload_n 3, 1, []) := by decide +kernel
theorem f_48_17 : mFetch 48 17 = some (.getfield 29, 3, [8, 16, 1, 46]) := by decide +kernel
theorem f_48_20 : mFetch 48 20 = some (.iload_n 2, 1, []) := by decide +kernel
theorem f_48_21 : mFetch 48 21 = some (.invokestatic 34, 3, [123, 2, 1, 0, 47, 559]) := by decide +kernel
theorem f_48_24 : mFetch 48 24 = some (.istore 5, 2, []) := by decide +kernel
theorem f_48_26 : mFetch 48 26 = some (.iload 5, 2, []) := by decide +kernel
theorem f_48_28 : mFetch 48 28 = some (.aload_n 3, 1, []) := by decide +kernel
theorem f_48_29 : mFetch 48 29 = some (.getfield 38, 3, [8, 17, 1, 48]) := by decide +kernel
theorem f_48_32 : mFetch 48 32 = some (.getfield 42, 3, [1, 2, 1, 49]) := by decide +kernel
theorem f_48_35 : mFetch 48 35 = some (.if_icmp .ge 382, 3, [417]) := by decide +kernel
theorem f_48_38 : mFetch 48 38 = some (.aload_n 3, 1, []) := by decide +kernel
theorem f_48_39 : mFetch 48 39 = some (.getfield 38, 3, [8, 17, 1, 48]) := by decide +kernel
theorem f_48_42 : mFetch 48 42 = some (.getfield 45, 3, [1, 0, 1, 50]) := by decide +kernel
theorem f_48_45 : mFetch 48 45 = some (.iload 5, 2, []) := by decide +kernel
theorem f_48_47 : mFetch 48 47 = some (.invokestatic 34, 3, [123, 2, 1, 0, 47, 559]) := by decide +kernel
theorem f_48_50 : mFetch 48 50 = some (.istore 6, 2, []) := by decide +kernel
theorem f_48_52 : mFetch 48 52 = some (.aload_n 3, 1, []) := by decide +kernel
theorem f_48_53 : mFetch 48 53 = some (.getfield 38, 3, [8, 17, 1, 48]) := by decide +kernel
theorem f_48_56 : mFetch 48 56 = some (.getfield 48, 3, [1, 1, 1, 51]) := by decide +kernel
theorem f_48_59 : mFetch 48 59 = some (.iload 5, 2, []) := by decide +kernel
theorem f_48_61 : mFetch 48 61 = some (.invokestatic 34, 3, [123, 2, 1, 0, 47, 559]) := by decide +kernel
theorem f_48_64 : mFetch 48 64 = some (.istore 7, 2, []) := by decide +kernel
theorem f_48_66 : mFetch 48 66 = some (.iload 6, 2, []) := by decide +kernel
theorem f_48_68 : mFetch 48 68 = some (.lookupswitch 322 #[(5, 226), (9, 179), (19, 125), (20, 136), (21, 147), (22, 163), (23, 195), (24, 239), (25, 263), (26, 284), (59, 309), (259, 116), (262, 297)], 116, [390, 294, 247, 193, 204, 215, 231, 263, 307, 331, 352, 377, 184, 365]) := by decide +kernel
theorem f_48_184 : mFetch 48 184 = some (.aload_n 0, 1, []) := by decide +kernel
theorem f_48_185 : mFetch 48 185 = some (.iload 7, 2, []) := by decide +kernel
theorem f_48_187 : mFetch 48 187 = some (.invokevirtual 51, 3, [49, 2, 2, 3, 684, 686, 11]) := by decide +kernel
theorem f_48_190 : mFetch 48 190 = some (.goto 221, 3, [411]) := by decide +kernel
theorem f_48_193 : mFetch 48 193 = some (.aload_n 0, 1, []) := by decide +kernel
theorem f_48_194 : mFetch 48 194 = some (.aload_n 1, 1, []) := by decide +kernel
theorem f_48_195 : mFetch 48 195 = some (.getfield 55, 3, [0, 7, 1, 52]) := by decide +kernel
theorem f_48_198 : mFetch 48 198 = some (.invokevirtual 51, 3, [49, 2, 2, 3, 684, 686, 11]) := by decide +kernel
theorem f_48_201 : mFetch 48 201 = some (.goto 210, 3, [411]) := by decide +kernel
theorem f_48_204 : mFetch 48 204 = some (.aload_n 0, 1, []) := by decide +kernel
theorem f_48_205 : mFetch 48 205 = some (.aload_n 1, 1, []) := by decide +kernel
theorem f_48_206 : mFetch 48 206 = some (.invokevirtual 58, 3, [6, 1, 2, 0, 691, 571, 572]) := by decide +kernel
theorem f_48_209 : mFetch 48 209 = some (.invokevirtual 51, 3, [49, 2, 2, 3, 684, 686, 11]) := by decide +kernel
theorem f_48_212 : mFetch 48 212 = some (.goto 199, 3, [411]) := by decide +kernel
theorem f_48_215 : mFetch 48 215 = some (.aload_n 0, 1, []) := by decide +kernel
theorem f_48_216 : mFetch 48 216 = some (.aload_n 1, 1, []) := by decide +kernel
theorem f_48_217 : mFetch 48 217 = some (.iload 7, 2, []) := by decide +kernel
theorem f_48_219 : mFetch 48 219 = some (.invokevirtual 61, 3, [1, 2, 2, 0, 692, 576, 577]) := by decide +kernel
theorem f_48_222 : mFetch 48 222 = some (.getfield 65, 3, [4, 5, 1, 53]) := by decide +kernel
theorem f_48_225 : mFetch 48 225 = some (.invokevirtual 51, 3, [49, 2, 2, 3, 684, 686, 11]) := by decide +kernel
theorem f_48_228 : mFetch 48 228 = some (.goto 183, 3, [411]) := by decide +kernel
theorem f_48_231 : mFetch 48 231 = some (.aload_n 0, 1, []) := by decide +kernel
theorem f_48_232 : mFetch 48 232 = some (.aload_n 1, 1, []) := by decide +kernel
theorem f_48_233 : mFetch 48 233 = some (.iload 7, 2, []) := by decide +kernel
theorem f_48_235 : mFetch 48 235 = some (.invokevirtual 61, 3, [1, 2, 2, 0, 692, 576, 577]) := by decide +kernel
theorem f_48_238 : mFetch 48 238 = some (.getfield 70, 3, [4, 6, 1, 54]) := by decide +kernel
theorem f_48_241 : mFetch 48 241 = some (.invokevirtual 51, 3, [49, 2, 2, 3, 684, 686, 11]) := by decide +kernel
theorem f_48_244 : mFetch 48 244 = some (.goto 167, 3, [411]) := by decide +kernel
theorem f_48_247 : mFetch 48 247 = some (.aload_n 0, 1, []) := by decide +kernel
theorem f_48_248 : mFetch 48 248 = some (.aload_n 1, 1, []) := by decide +kernel
theorem f_48_249 : mFetch 48 249 = some (.iload 7, 2, []) := by decide +kernel
theorem f_48_251 : mFetch 48 251 = some (.invokevirtual 61, 3, [1, 2, 2, 0, 692, 576, 577]) := by decide +kernel
theorem f_48_254 : mFetch 48 254 = some (.getfield 73, 3, [4, 7, 1, 55]) := by decide +kernel
theorem f_48_257 : mFetch 48 257 = some (.invokevirtual 51, 3, [49, 2, 2, 3, 684, 686, 11]) := by decide +kernel
theorem f_48_260 : mFetch 48 260 = some (.goto 151, 3, [411]) := by decide +kernel
theorem f_48_263 : mFetch 48 263 = some (.aload_n 0, 1, []) := by decide +kernel
theorem f_48_264 : mFetch 48 264 = some (.iload 4, 2, []) := by decide +kernel
theorem f_48_266 : mFetch 48 266 = some (.ifCond .ge 7, 3, [273]) := by decide +kernel
theorem f_48_269 : mFetch 48 269 = some (.iconst 0, 1, []) := by decide +kernel
theorem f_48_270 : mFetch 48 270 = some (.goto 18, 3, [288]) := by decide +kernel
theorem f_48_273 : mFetch 48 273 = some (.aload_n 3, 1, []) := by decide +kernel
theorem f_48_274 : mFetch 48 274 = some (.iload 4, 2, []) := by decide +kernel
theorem f_48_276 : mFetch 48 276 = some (.invokevirtual 76, 3, [87, 2, 2, 8, 693, 602, 603]) := by decide +kernel
theorem f_48_279 : mFetch 48 279 = some (.aload_n 1, 1, []) := by decide +kernel
theorem f_48_280 : mFetch 48 280 = some (.iload 7, 2, []) := by decide +kernel
theorem f_48_282 : mFetch 48 282 = some (.iload 4, 2, []) := by decide +kernel
theorem f_48_284 : mFetch 48 284 = some (.invokevirtual 80, 3, [11, 3, 2, 0, 694, 634, 635]) := by decide +kernel
theorem f_48_287 : mFetch 48 287 = some (.isub, 1, []) := by decide +kernel
theorem f_48_288 : mFetch 48 288 = some (.invokevirtual 51, 3, [49, 2, 2, 3, 684, 686, 11]) := by decide +kernel
theorem f_48_291 : mFetch 48 291 = some (.goto 120, 3, [411]) := by decide +kernel
theorem f_48_294 : mFetch 48 294 = some (.aload_n 0, 1, []) := by decide +kernel
theorem f_48_295 : mFetch 48 295 = some (.aload_n 3, 1, []) := by decide +kernel
theorem f_48_296 : mFetch 48 296 = some (.iload 7, 2, []) := by decide +kernel
theorem f_48_298 : mFetch 48 298 = some (.invokevirtual 76, 3, [87, 2, 2, 8, 693, 602, 603]) := by decide +kernel
theorem f_48_301 : mFetch 48 301 = some (.invokevirtual 51, 3, [49, 2, 2, 3, 684, 686, 11]) := by decide +kernel
theorem f_48_304 : mFetch 48 304 = some (.goto 107, 3, [411]) := by decide +kernel
theorem f_48_307 : mFetch 48 307 = some (.aload_n 0, 1, []) := by decide +kernel
theorem f_48_308 : mFetch 48 308 = some (.aload_n 1, 1, []) := by decide +kernel
theorem f_48_309 : mFetch 48 309 = some (.iload 7, 2, []) := by decide +kernel
theorem f_48_311 : mFetch 48 311 = some (.invokevirtual 61, 3, [1, 2, 2, 0, 692, 576, 577]) := by decide +kernel
theorem f_48_314 : mFetch 48 314 = some (.getfield 84, 3, [4, 2, 1, 56]) := by decide +kernel
theorem f_48_317 : mFetch 48 317 = some (.ifCond .eq 7, 3, [324]) := by decide +kernel
theorem f_48_320 : mFetch 48 320 = some (.iconst 1, 1, []) := by decide +kernel
theorem f_48_321 : mFetch 48 321 = some (.goto 4, 3, [325]) := by decide +kernel
theorem f_48_324 : mFetch 48 324 = some (.iconst 0, 1, []) := by decide +kernel
theorem f_48_325 : mFetch 48 325 = some (.invokevirtual 51, 3, [49, 2, 2, 3, 684, 686, 11]) := by decide +kernel
theorem f_48_328 : mFetch 48 328 = some (.goto 83, 3, [411]) := by decide +kernel
theorem f_48_331 : mFetch 48 331 = some (.aload_n 0, 1, []) := by decide +kernel
theorem f_48_332 : mFetch 48 332 = some (.aload_n 1, 1, []) := by decide +kernel
theorem f_48_333 : mFetch 48 333 = some (.getfield 88, 3, [0, 11, 1, 57]) := by decide +kernel
theorem f_48_336 : mFetch 48 336 = some (.iload 7, 2, []) := by decide +kernel
theorem f_48_338 : mFetch 48 338 = some (.if_icmp .ne 7, 3, [345]) := by decide +kernel
theorem f_48_341 : mFetch 48 341 = some (.iconst 1, 1, []) := by decide +kernel
theorem f_48_342 : mFetch 48 342 = some (.goto 4, 3, [346]) := by decide +kernel
theorem f_48_345 : mFetch 48 345 = some (.iconst 0, 1, []) := by decide +kernel
theorem f_48_346 : mFetch 48 346 = some (.invokevirtual 51, 3, [49, 2, 2, 3, 684, 686, 11]) := by decide +kernel
theorem f_48_349 : mFetch 48 349 = some (.goto 62, 3, [411]) := by decide +kernel
theorem f_48_352 : mFetch 48 352 = some (.aload_n 0, 1, []) := by decide +kernel
theorem f_48_353 : mFetch 48 353 = some (.iconst 1, 1, []) := by decide +kernel
theorem f_48_354 : mFetch 48 354 = some (.aload_n 0, 1, []) := by decide +kernel
theorem f_48_355 : mFetch 48 355 = some (.invokevirtual 91, 3, [50, 1, 2, 3, 695, 697, 12]) := by decide +kernel
theorem f_48_358 : mFetch 48 358 = some (.isub, 1, []) := by decide +kernel
theorem f_48_359 : mFetch 48 359 = some (.invokevirtual 51, 3, [49, 2, 2, 3, 684, 686, 11]) := by decide +kernel
theorem f_48_362 : mFetch 48 362 = some (.goto 49, 3, [411]) := by decide +kernel
theorem f_48_365 : mFetch 48 365 = some (.aload_n 0, 1, []) := by decide +kernel
theorem f_48_366 : mFetch 48 366 = some (.aload_n 0, 1, []) := by decide +kernel
theorem f_48_367 : mFetch 48 367 = some (.invokevirtual 91, 3, [50, 1, 2, 3, 695, 697, 12]) := by decide +kernel
theorem f_48_370 : mFetch 48 370 = some (.ineg, 1, []) := by decide +kernel
theorem f_48_371 : mFetch 48 371 = some (.invokevirtual 51, 3, [49, 2, 2, 3, 684, 686, 11]) := by decide +kernel
theorem f_48_374 : mFetch 48 374 = some (.goto 37, 3, [411]) := by decide +kernel
theorem f_48_377 : mFetch 48 377 = some (.aload_n 0, 1, []) := by decide +kernel
theorem f_48_378 : mFetch 48 378 = some (.invokevirtual 91, 3, [50, 1, 2, 3, 695, 697, 12]) := by decide +kernel
theorem f_48_381 : mFetch 48 381 = some (.ifCond .eq 7, 3, [388]) := by decide +kernel
theorem f_48_384 : mFetch 48 384 = some (.iconst 1, 1, []) := by decide +kernel
theorem f_48_385 : mFetch 48 385 = some (.goto 4, 3, [389]) := by decide +kernel
theorem f_48_388 : mFetch 48 388 = some (.iconst 0, 1, []) := by decide +kernel
theorem f_48_389 : mFetch 48 389 = some (.ireturn, 1, [2]) := by decide +kernel
theorem f_48_390 : mFetch 48 390 = some (.aload_n 0, 1, []) := by decide +kernel
theorem f_48_391 : mFetch 48 391 = some (.invokevirtual 91, 3, [50, 1, 2, 3, 695, 697, 12]) := by decide +kernel
theorem f_48_394 : mFetch 48 394 = some (.istore 8, 2, []) := by decide +kernel
theorem f_48_396 : mFetch 48 396 = some (.aload_n 0, 1, []) := by decide +kernel
theorem f_48_397 : mFetch 48 397 = some (.iload 6, 2, []) := by decide +kernel
theorem f_48_399 : mFetch 48 399 = some (.aload_n 0, 1, []) := by decide +kernel
theorem f_48_400 : mFetch 48 400 = some (.invokevirtual 91, 3, [50, 1, 2, 3, 695, 697, 12]) := by decide +kernel
theorem f_48_403 : mFetch 48 403 = some (.iload 8, 2, []) := by decide +kernel
theorem f_48_405 : mFetch 48 405 = some (.invokestatic 94, 3, [51, 3, 0, 0, 699, 700]) := by decide +kernel
theorem f_48_408 : mFetch 48 408 = some (.invokevirtual 51, 3, [49, 2, 2, 3, 684, 686, 11]) := by decide +kernel
theorem f_48_411 : mFetch 48 411 = some (.iinc 5 1, 3, []) := by decide +kernel
theorem f_48_414 : mFetch 48 414 = some (.goto (-388), 3, [26]) := by decide +kernel
theorem f_48_417 : mFetch 48 417 = some (.iconst 0, 1, []) := by decide +kernel
theorem f_48_418 : mFetch 48 418 = some (.ireturn, 1, [2]) := by decide +kernel
theorem b_48_0 {d : Nat} {a0 : Nat} {a1 : Nat} {x2 : Int32} {w : MW} (h0 : mTg w a1 = 0) (h1 : mR w a1 0 = some (gR w a1 0)) : mX (d + 1) 48 0 [.ref a0, .ref a1, .int x2, mJ, mJ, mJ, mJ, mJ, mJ] [] w = mThen (mK d 5 [.ref a1] w) (fun v w9 => mX (d + 1) 48 9 [.ref a0, .ref a1, .int x2, .ref (gR w a1 0), mJ, mJ, mJ, mJ, mJ] (v.toList ++ []) w9) := by
  refine Eq.trans (X_st f_48_0 rfl rfl) ?_
  refine Eq.trans (X_getR f_48_1 h0 rfl h1) ?_
  refine Eq.trans (X_astore_n (L' := [.ref a0, .ref a1, .int x2, .ref (gR w a1 0), mJ, mJ, mJ, mJ, mJ]) f_48_4 (Nat.le_of_ble_eq_true rfl) rfl) ?_
  refine Eq.trans (X_st f_48_5 rfl rfl) ?_
  refine Eq.trans (X_call f_48_6 (by decide) rfl rfl rfl rfl rfl rfl (Nat.le_of_ble_eq_true rfl) (Nat.le_of_ble_eq_true rfl) (decide_eq_true h0) (Nat.le_of_ble_eq_true rfl)) ?_
  exact mThen_eq fun v w9 => mX_mask rfl
theorem e_48 {d : Nat} {a0 : Nat} {a1 : Nat} {x2 : Int32} {w : MW} : mK d 48 [.ref a0, .ref a1, .int x2] w = mX d 48 0 [.ref a0, .ref a1, .int x2, mJ, mJ, mJ, mJ, mJ, mJ] [] w := rfl
theorem b_48_9 {d : Nat} {a0 : Nat} {a1 : Nat} {x2 : Int32} {a3 : Nat} {y0 : Int32} {w : MW} (h0 : mTg w a0 = 3) (h1 : mE ≤ a0) (h2 : mTg (wI w a0 1 (nI 0)) a3 = 8) (h3 : mR (wI w a0 1 (nI 0)) a3 16 = some (gR (wI w a0 1 (nI 0)) a3 16)) : mX (d + 1) 48 9 [.ref a0, .ref a1, .int x2, .ref a3, mJ, mJ, mJ, mJ, mJ] [.int y0] w = mThen (mK d 123 [.ref (gR (wI w a0 1 (nI 0)) a3 16), .int x2] (wI w a0 1 (nI 0))) (fun v w9 => mX (d + 1) 48 24 [.ref a0, .ref a1, mJ, .ref a3, .int y0, mJ, mJ, mJ, mJ] (v.toList ++ []) w9) := by
  refine Eq.trans (X_istore (L' := [.ref a0, .ref a1, .int x2, .ref a3, .int y0, mJ, mJ, mJ, mJ]) f_48_9 (Nat.le_of_ble_eq_true rfl) rfl) ?_
  refine Eq.trans (X_st f_48_11 rfl rfl) ?_
  refine Eq.trans (X_iconst f_48_12 kc_i_0) ?_
  refine Eq.trans (X_putI f_48_13 h0 h1 rfl rfl) ?_
  refine Eq.trans (X_st f_48_16 rfl rfl) ?_
  refine Eq.trans (X_getR f_48_17 h2 rfl h3) ?_
  refine Eq.trans (X_st f_48_20 rfl rfl) ?_
  refine Eq.trans (X_call f_48_21 (by decide) rfl rfl rfl rfl rfl rfl (Nat.le_of_ble_eq_true rfl) (Nat.le_of_ble_eq_true rfl) rfl (Nat.le_of_ble_eq_true rfl)) ?_
  exact mThen_eq fun v w9 => mX_mask rfl
theorem b_48_24 {d : Nat} {a0 : Nat} {a1 : Nat} {a3 : Nat} {x4 : Int32} {y0 : Int32} {w : MW} : mX d 48 24 [.ref a0, .ref a1, mJ, .ref a3, .int x4, mJ, mJ, mJ, mJ] [.int y0] w = mX d 48 26 [.ref a0, .ref a1, mJ, .ref a3, .int x4, .int y0, mJ, mJ, mJ] [] w := by
  refine Eq.trans (X_istore (L' := [.ref a0, .ref a1, mJ, .ref a3, .int x4, .int y0, mJ, mJ, mJ]) f_48_24 (Nat.le_of_ble_eq_true rfl) rfl) ?_
  exact mX_mask rfl
theorem b_48_26 {d : Nat} {a0 : Nat} {a1 : Nat} {a3 : Nat} {x4 : Int32} {x5 : Int32} {w : MW} (h0 : mTg w a3 = 8) (h1 : mR w a3 17 = some (gR w a3 17)) (h2 : mTg w (gR w a3 17) = 1) : mX d 48 26 [.ref a0, .ref a1, mJ, .ref a3, .int x4, .int x5, mJ, mJ, mJ] [] w = (if (mI w (gR w a3 17) 2) ≤ x5 then mX d 48 417 [mJ, mJ, mJ, mJ, mJ, mJ, mJ, mJ, mJ] [] w else mX d 48 38 [.ref a0, .ref a1, mJ, .ref a3, .int x4, .int x5, mJ, mJ, mJ] [] w) := by
  refine Eq.trans (X_st f_48_26 rfl rfl) ?_
  refine Eq.trans (X_st f_48_28 rfl rfl) ?_
  refine Eq.trans (X_getR f_48_29 h0 rfl h1) ?_
  refine Eq.trans (X_getI f_48_32 h2 rfl) ?_
  refine Eq.trans (X_br f_48_35 rfl rfl) ?_
  exact mIte_eq (mX_mask rfl) (mX_mask rfl)
theorem b_48_38 {d : Nat} {a0 : Nat} {a1 : Nat} {a3 : Nat} {x4 : Int32} {x5 : Int32} {w : MW} (h0 : mTg w a3 = 8) (h1 : mR w a3 17 = some (gR w a3 17)) (h2 : mTg w (gR w a3 17) = 1) (h3 : mR w (gR w a3 17) 0 = some (gR w (gR w a3 17) 0)) : mX (d + 1) 48 38 [.ref a0, .ref a1, mJ, .ref a3, .int x4, .int x5, mJ, mJ, mJ] [] w = mThen (mK d 123 [.ref (gR w (gR w a3 17) 0), .int x5] w) (fun v w9 => mX (d + 1) 48 50 [.ref a0, .ref a1, mJ, .ref a3, .int x4, .int x5, mJ, mJ, mJ] (v.toList ++ []) w9) := by
  refine Eq.trans (X_st f_48_38 rfl rfl) ?_
  refine Eq.trans (X_getR f_48_39 h0 rfl h1) ?_
  refine Eq.trans (X_getR f_48_42 h2 rfl h3) ?_
  refine Eq.trans (X_st f_48_45 rfl rfl) ?_
  refine Eq.trans (X_call f_48_47 (by decide) rfl rfl rfl rfl rfl rfl (Nat.le_of_ble_eq_true rfl) (Nat.le_of_ble_eq_true rfl) rfl (Nat.le_of_ble_eq_true rfl)) ?_
  exact mThen_eq fun v w9 => mX_mask rfl
theorem b_48_50 {d : Nat} {a0 : Nat} {a1 : Nat} {a3 : Nat} {x4 : Int32} {x5 : Int32} {y0 : Int32} {w : MW} (h0 : mTg w a3 = 8) (h1 : mR w a3 17 = some (gR w a3 17)) (h2 : mTg w (gR w a3 17) = 1) (h3 : mR w (gR w a3 17) 1 = some (gR w (gR w a3 17) 1)) : mX (d + 1) 48 50 [.ref a0, .ref a1, mJ, .ref a3, .int x4, .int x5, mJ, mJ, mJ] [.int y0] w = mThen (mK d 123 [.ref (gR w (gR w a3 17) 1), .int x5] w) (fun v w9 => mX (d + 1) 48 64 [.ref a0, .ref a1, mJ, .ref a3, .int x4, .int x5, .int y0, mJ, mJ] (v.toList ++ []) w9) := by
  refine Eq.trans (X_istore (L' := [.ref a0, .ref a1, mJ, .ref a3, .int x4, .int x5, .int y0, mJ, mJ]) f_48_50 (Nat.le_of_ble_eq_true rfl) rfl) ?_
  refine Eq.trans (X_st f_48_52 rfl rfl) ?_
  refine Eq.trans (X_getR f_48_53 h0 rfl h1) ?_
  refine Eq.trans (X_getR f_48_56 h2 rfl h3) ?_
  refine Eq.trans (X_st f_48_59 rfl rfl) ?_
  refine Eq.trans (X_call f_48_61 (by decide) rfl rfl rfl rfl rfl rfl (Nat.le_of_ble_eq_true rfl) (Nat.le_of_ble_eq_true rfl) rfl (Nat.le_of_ble_eq_true rfl)) ?_
  exact mThen_eq fun v w9 => mX_mask rfl
theorem s_48_64_5 {d : Nat} {a0 : Nat} {a1 : Nat} {a3 : Nat} {x4 : Int32} {x5 : Int32} {x6 : Int32} {y0 : Int32} {w : MW} (h0 : x6 = (nI 5)) : mX d 48 64 [.ref a0, .ref a1, mJ, .ref a3, .int x4, .int x5, .int x6, mJ, mJ] [.int y0] w = mX d 48 294 [.ref a0, .ref a1, mJ, .ref a3, .int x4, .int x5, mJ, .int y0, mJ] [] w := by
  refine Eq.trans (X_istore (L' := [.ref a0, .ref a1, mJ, .ref a3, .int x4, .int x5, .int x6, .int y0, mJ]) f_48_64 (Nat.le_of_ble_eq_true rfl) rfl) ?_
  refine Eq.trans (X_st f_48_66 rfl rfl) ?_
  refine Eq.trans (X_sw f_48_68 rfl (congrArg Value.int h0) rfl) ?_
  exact mX_mask rfl
theorem s_48_64_9 {d : Nat} {a0 : Nat} {a1 : Nat} {a3 : Nat} {x4 : Int32} {x5 : Int32} {x6 : Int32} {y0 : Int32} {w : MW} (h0 : x6 = (nI 9)) : mX d 48 64 [.ref a0, .ref a1, mJ, .ref a3, .int x4, .int x5, .int x6, mJ, mJ] [.int y0] w = mX d 48 247 [.ref a0, .ref a1, mJ, .ref a3, .int x4, .int x5, mJ, .int y0, mJ] [] w := by
  refine Eq.trans (X_istore (L' := [.ref a0, .ref a1, mJ, .ref a3, .int x4, .int x5, .int x6, .int y0, mJ]) f_48_64 (Nat.le_of_ble_eq_true rfl) rfl) ?_
  refine Eq.trans (X_st f_48_66 rfl rfl) ?_
  refine Eq.trans (X_sw f_48_68 rfl (congrArg Value.int h0) rfl) ?_
  exact mX_mask rfl
theorem s_48_64_19 {d : Nat} {a0 : Nat} {a1 : Nat} {a3 : Nat} {x4 : Int32} {x5 : Int32} {x6 : Int32} {y0 : Int32} {w : MW} (h0 : x6 = (nI 19)) : mX d 48 64 [.ref a0, .ref a1, mJ, .ref a3, .int x4, .int x5, .int x6, mJ, mJ] [.int y0] w = mX d 48 193 [.ref a0, .ref a1, mJ, .ref a3, .int x4, .int x5, mJ, mJ, mJ] [] w := by
  refine Eq.trans (X_istore (L' := [.ref a0, .ref a1, mJ, .ref a3, .int x4, .int x5, .int x6, .int y0, mJ]) f_48_64 (Nat.le_of_ble_eq_true rfl) rfl) ?_
  refine Eq.trans (X_st f_48_66 rfl rfl) ?_
  refine Eq.trans (X_sw f_48_68 rfl (congrArg Value.int h0) rfl) ?_
  exact mX_mask rfl
theorem s_48_64_20 {d : Nat} {a0 : Nat} {a1 : Nat} {a3 : Nat} {x4 : Int32} {x5 : Int32} {x6 : Int32} {y0 : Int32} {w : MW} (h0 : x6 = (nI 20)) : mX d 48 64 [.ref a0, .ref a1, mJ, .ref a3, .int x4, .int x5, .int x6, mJ, mJ] [.int y0] w = mX d 48 204 [.ref a0, .ref a1, mJ, .ref a3, .int x4, .int x5, mJ, mJ, mJ] [] w := by
  refine Eq.trans (X_istore (L' := [.ref a0, .ref a1, mJ, .ref a3, .int x4, .int x5, .int x6, .int y0, mJ]) f_48_64 (Nat.le_of_ble_eq_true rfl) rfl) ?_
  refine Eq.trans (X_st f_48_66 rfl rfl) ?_
  refine Eq.trans (X_sw f_48_68 rfl (congrArg Value.int h0) rfl) ?_
  exact mX_mask rfl
theorem s_48_64_21 {d : Nat} {a0 : Nat} {a1 : Nat} {a3 : Nat} {x4 : Int32} {x5 : Int32} {x6 : Int32} {y0 : Int32} {w : MW} (h0 : x6 = (nI 21)) : mX d 48 64 [.ref a0, .ref a1, mJ, .ref a3, .int x4, .int x5, .int x6, mJ, mJ] [.int y0] w = mX d 48 215 [.ref a0, .ref a1, mJ, .ref a3, .int x4, .int x5, mJ, .int y0, mJ] [] w := by
  refine Eq.trans (X_istore (L' := [.ref a0, .ref a1, mJ, .ref a3, .int x4, .int x5, .int x6, .int y0, mJ]) f_48_64 (Nat.le_of_ble_eq_true rfl) rfl) ?_
  refine Eq.trans (X_st f_48_66 rfl rfl) ?_
  refine Eq.trans (X_sw f_48_68 rfl (congrArg Value.int h0) rfl) ?_
  exact mX_mask rfl
theorem s_48_64_22 {d : Nat} {a0 : Nat} {a1 : Nat} {a3 : Nat} {x4 : Int32} {x5 : Int32} {x6 : Int32} {y0 : Int32} {w : MW} (h0 : x6 = (nI 22)) : mX d 48 64 [.ref a0, .ref a1, mJ, .ref a3, .int x4, .int x5, .int x6, mJ, mJ] [.int y0] w = mX d 48 231 [.ref a0, .ref a1, mJ, .ref a3, .int x4, .int x5, mJ, .int y0, mJ] [] w := by
  refine Eq.trans (X_istore (L' := [.ref a0, .ref a1, mJ, .ref a3, .int x4, .int x5, .int x6, .int y0, mJ]) f_48_64 (Nat.le_of_ble_eq_true rfl) rfl) ?_
  refine Eq.trans (X_st f_48_66 rfl rfl) ?_
  refine Eq.trans (X_sw f_48_68 rfl (congrArg Value.int h0) rfl) ?_
  exact mX_mask rfl
theorem s_48_64_23 {d : Nat} {a0 : Nat} {a1 : Nat} {a3 : Nat} {x4 : Int32} {x5 : Int32} {x6 : Int32} {y0 : Int32} {w : MW} (h0 : x6 = (nI 23)) : mX d 48 64 [.ref a0, .ref a1, mJ, .ref a3, .int x4, .int x5, .int x6, mJ, mJ] [.int y0] w = mX d 48 263 [.ref a0, .ref a1, mJ, .ref a3, .int x4, .int x5, mJ, .int y0, mJ] [] w := by
  refine Eq.trans (X_istore (L' := [.ref a0, .ref a1, mJ, .ref a3, .int x4, .int x5, .int x6, .int y0, mJ]) f_48_64 (Nat.le_of_ble_eq_true rfl) rfl) ?_
  refine Eq.trans (X_st f_48_66 rfl rfl) ?_
  refine Eq.trans (X_sw f_48_68 rfl (congrArg Value.int h0) rfl) ?_
  exact mX_mask rfl
theorem s_48_64_24 {d : Nat} {a0 : Nat} {a1 : Nat} {a3 : Nat} {x4 : Int32} {x5 : Int32} {x6 : Int32} {y0 : Int32} {w : MW} (h0 : x6 = (nI 24)) : mX d 48 64 [.ref a0, .ref a1, mJ, .ref a3, .int x4, .int x5, .int x6, mJ, mJ] [.int y0] w = mX d 48 307 [.ref a0, .ref a1, mJ, .ref a3, .int x4, .int x5, mJ, .int y0, mJ] [] w := by
  refine Eq.trans (X_istore (L' := [.ref a0, .ref a1, mJ, .ref a3, .int x4, .int x5, .int x6, .int y0, mJ]) f_48_64 (Nat.le_of_ble_eq_true rfl) rfl) ?_
  refine Eq.trans (X_st f_48_66 rfl rfl) ?_
  refine Eq.trans (X_sw f_48_68 rfl (congrArg Value.int h0) rfl) ?_
  exact mX_mask rfl
theorem s_48_64_25 {d : Nat} {a0 : Nat} {a1 : Nat} {a3 : Nat} {x4 : Int32} {x5 : Int32} {x6 : Int32} {y0 : Int32} {w : MW} (h0 : x6 = (nI 25)) : mX d 48 64 [.ref a0, .ref a1, mJ, .ref a3, .int x4, .int x5, .int x6, mJ, mJ] [.int y0] w = mX d 48 331 [.ref a0, .ref a1, mJ, .ref a3, .int x4, .int x5, mJ, .int y0, mJ] [] w := by
  refine Eq.trans (X_istore (L' := [.ref a0, .ref a1, mJ, .ref a3, .int x4, .int x5, .int x6, .int y0, mJ]) f_48_64 (Nat.le_of_ble_eq_true rfl) rfl) ?_
  refine Eq.trans (X_st f_48_66 rfl rfl) ?_
  refine Eq.trans (X_sw f_48_68 rfl (congrArg Value.int h0) rfl) ?_
  exact mX_mask rfl
theorem s_48_64_26 {d : Nat} {a0 : Nat} {a1 : Nat} {a3 : Nat} {x4 : Int32} {x5 : Int32} {x6 : Int32} {y0 : Int32} {w : MW} (h0 : x6 = (nI 26)) : mX d 48 64 [.ref a0, .ref a1, mJ, .ref a3, .int x4, .int x5, .int x6, mJ, mJ] [.int y0] w = mX d 48 352 [.ref a0, .ref a1, mJ, .ref a3, .int x4, .int x5, mJ, mJ, mJ] [] w := by
  refine Eq.trans (X_istore (L' := [.ref a0, .ref a1, mJ, .ref a3, .int x4, .int x5, .int x6, .int y0, mJ]) f_48_64 (Nat.le_of_ble_eq_true rfl) rfl) ?_
  refine Eq.trans (X_st f_48_66 rfl rfl) ?_
  refine Eq.trans (X_sw f_48_68 rfl (congrArg Value.int h0) rfl) ?_
  exact mX_mask rfl
theorem s_48_64_59 {d : Nat} {a0 : Nat} {a1 : Nat} {a3 : Nat} {x4 : Int32} {x5 : Int32} {x6 : Int32} {y0 : Int32} {w : MW} (h0 : x6 = (nI 59)) : mX d 48 64 [.ref a0, .ref a1, mJ, .ref a3, .int x4, .int x5, .int x6, mJ, mJ] [.int y0] w = mX d 48 377 [.ref a0, mJ, mJ, mJ, mJ, mJ, mJ, mJ, mJ] [] w := by
  refine Eq.trans (X_istore (L' := [.ref a0, .ref a1, mJ, .ref a3, .int x4, .int x5, .int x6, .int y0, mJ]) f_48_64 (Nat.le_of_ble_eq_true rfl) rfl) ?_
  refine Eq.trans (X_st f_48_66 rfl rfl) ?_
  refine Eq.trans (X_sw f_48_68 rfl (congrArg Value.int h0) rfl) ?_
  exact mX_mask rfl
theorem s_48_64_259 {d : Nat} {a0 : Nat} {a1 : Nat} {a3 : Nat} {x4 : Int32} {x5 : Int32} {x6 : Int32} {y0 : Int32} {w : MW} (h0 : x6 = (nI 259)) : mX d 48 64 [.ref a0, .ref a1, mJ, .ref a3, .int x4, .int x5, .int x6, mJ, mJ] [.int y0] w = mX d 48 184 [.ref a0, .ref a1, mJ, .ref a3, .int x4, .int x5, mJ, .int y0, mJ] [] w := by
  refine Eq.trans (X_istore (L' := [.ref a0, .ref a1, mJ, .ref a3, .int x4, .int x5, .int x6, .int y0, mJ]) f_48_64 (Nat.le_of_ble_eq_true rfl) rfl) ?_
  refine Eq.trans (X_st f_48_66 rfl rfl) ?_
  refine Eq.trans (X_sw f_48_68 rfl (congrArg Value.int h0) rfl) ?_
  exact mX_mask rfl
theorem s_48_64_262 {d : Nat} {a0 : Nat} {a1 : Nat} {a3 : Nat} {x4 : Int32} {x5 : Int32} {x6 : Int32} {y0 : Int32} {w : MW} (h0 : x6 = (nI 262)) : mX d 48 64 [.ref a0, .ref a1, mJ, .ref a3, .int x4, .int x5, .int x6, mJ, mJ] [.int y0] w = mX d 48 365 [.ref a0, .ref a1, mJ, .ref a3, .int x4, .int x5, mJ, mJ, mJ] [] w := by
  refine Eq.trans (X_istore (L' := [.ref a0, .ref a1, mJ, .ref a3, .int x4, .int x5, .int x6, .int y0, mJ]) f_48_64 (Nat.le_of_ble_eq_true rfl) rfl) ?_
  refine Eq.trans (X_st f_48_66 rfl rfl) ?_
  refine Eq.trans (X_sw f_48_68 rfl (congrArg Value.int h0) rfl) ?_
  exact mX_mask rfl
theorem s_48_64_d {d : Nat} {a0 : Nat} {a1 : Nat} {a3 : Nat} {x4 : Int32} {x5 : Int32} {x6 : Int32} {y0 : Int32} {w : MW} (h0 : ¬ (5 : Int) = (x6).toInt ∧ ¬ (9 : Int) = (x6).toInt ∧ ¬ (19 : Int) = (x6).toInt ∧ ¬ (20 : Int) = (x6).toInt ∧ ¬ (21 : Int) = (x6).toInt ∧ ¬ (22 : Int) = (x6).toInt ∧ ¬ (23 : Int) = (x6).toInt ∧ ¬ (24 : Int) = (x6).toInt ∧ ¬ (25 : Int) = (x6).toInt ∧ ¬ (26 : Int) = (x6).toInt ∧ ¬ (59 : Int) = (x6).toInt ∧ ¬ (259 : Int) = (x6).toInt ∧ ¬ (262 : Int) = (x6).toInt) : mX d 48 64 [.ref a0, .ref a1, mJ, .ref a3, .int x4, .int x5, .int x6, mJ, mJ] [.int y0] w = mX d 48 390 [.ref a0, .ref a1, mJ, .ref a3, .int x4, .int x5, .int x6, mJ, mJ] [] w := by
  refine Eq.trans (X_istore (L' := [.ref a0, .ref a1, mJ, .ref a3, .int x4, .int x5, .int x6, .int y0, mJ]) f_48_64 (Nat.le_of_ble_eq_true rfl) rfl) ?_
  refine Eq.trans (X_st f_48_66 rfl rfl) ?_
  refine Eq.trans (X_st f_48_68 rfl (by simp only [mstep, mLook, List.drop, List.getD_eq_getElem?_getD, h0.1, h0.2.1, h0.2.2.1, h0.2.2.2.1, h0.2.2.2.2.1, h0.2.2.2.2.2.1, h0.2.2.2.2.2.2.1, h0.2.2.2.2.2.2.2.1, h0.2.2.2.2.2.2.2.2.1, h0.2.2.2.2.2.2.2.2.2.1, h0.2.2.2.2.2.2.2.2.2.2.1, h0.2.2.2.2.2.2.2.2.2.2.2.1, h0.2.2.2.2.2.2.2.2.2.2.2.2, if_false]; rfl)) ?_
  exact mX_mask rfl
theorem b_48_184 {d : Nat} {a0 : Nat} {a1 : Nat} {a3 : Nat} {x4 : Int32} {x5 : Int32} {x7 : Int32} {w : MW} (h0 : mTg w a0 = 3) : mX (d + 1) 48 184 [.ref a0, .ref a1, mJ, .ref a3, .int x4, .int x5, mJ, .int x7, mJ] [] w = mThen (mK d 49 [.ref a0, .int x7] w) (fun v w9 => mX (d + 1) 48 190 [.ref a0, .ref a1, mJ, .ref a3, .int x4, .int x5, mJ, mJ, mJ] (v.toList ++ []) w9) := by
  refine Eq.trans (X_st f_48_184 rfl rfl) ?_
  refine Eq.trans (X_st f_48_185 rfl rfl) ?_
  refine Eq.trans (X_call f_48_187 (by decide) rfl rfl rfl rfl rfl rfl (Nat.le_of_ble_eq_true rfl) (Nat.le_of_ble_eq_true rfl) (decide_eq_true h0) (Nat.le_of_ble_eq_true rfl)) ?_
  exact mThen_eq fun v w9 => mX_mask rfl
theorem b_48_190 {d : Nat} {a0 : Nat} {a1 : Nat} {a3 : Nat} {x4 : Int32} {x5 : Int32} {w : MW} : mX d 48 190 [.ref a0, .ref a1, mJ, .ref a3, .int x4, .int x5, mJ, mJ, mJ] [] w = mX d 48 411 [.ref a0, .ref a1, mJ, .ref a3, .int x4, .int x5, mJ, mJ, mJ] [] w := by
  refine Eq.trans (X_st f_48_190 rfl rfl) ?_
  exact mX_mask rfl
theorem b_48_193 {d : Nat} {a0 : Nat} {a1 : Nat} {a3 : Nat} {x4 : Int32} {x5 : Int32} {w : MW} (h0 : mTg w a1 = 0) (h1 : mTg w a0 = 3) : mX (d + 1) 48 193 [.ref a0, .ref a1, mJ, .ref a3, .int x4, .int x5, mJ, mJ, mJ] [] w = mThen (mK d 49 [.ref a0, .int (mI w a1 7)] w) (fun v w9 => mX (d + 1) 48 201 [.ref a0, .ref a1, mJ, .ref a3, .int x4, .int x5, mJ, mJ, mJ] (v.toList ++ []) w9) := by
  refine Eq.trans (X_st f_48_193 rfl rfl) ?_
  refine Eq.trans (X_st f_48_194 rfl rfl) ?_
  refine Eq.trans (X_getI f_48_195 h0 rfl) ?_
  refine Eq.trans (X_call f_48_198 (by decide) rfl rfl rfl rfl rfl rfl (Nat.le_of_ble_eq_true rfl) (Nat.le_of_ble_eq_true rfl) (decide_eq_true h1) (Nat.le_of_ble_eq_true rfl)) ?_
  exact mThen_eq fun v w9 => mX_mask rfl
theorem b_48_201 {d : Nat} {a0 : Nat} {a1 : Nat} {a3 : Nat} {x4 : Int32} {x5 : Int32} {w : MW} : mX d 48 201 [.ref a0, .ref a1, mJ, .ref a3, .int x4, .int x5, mJ, mJ, mJ] [] w = mX d 48 411 [.ref a0, .ref a1, mJ, .ref a3, .int x4, .int x5, mJ, mJ, mJ] [] w := by
  refine Eq.trans (X_st f_48_201 rfl rfl) ?_
  exact mX_mask rfl
theorem b_48_204 {d : Nat} {a0 : Nat} {a1 : Nat} {a3 : Nat} {x4 : Int32} {x5 : Int32} {w : MW} (h0 : mTg w a1 = 0) : mX (d + 1) 48 204 [.ref a0, .ref a1, mJ, .ref a3, .int x4, .int x5, mJ, mJ, mJ] [] w = mThen (mK d 6 [.ref a1] w) (fun v w9 => mX (d + 1) 48 209 [.ref a0, .ref a1, mJ, .ref a3, .int x4, .int x5, mJ, mJ, mJ] (v.toList ++ [.ref a0]) w9) := by
  refine Eq.trans (X_st f_48_204 rfl rfl) ?_
  refine Eq.trans (X_st f_48_205 rfl rfl) ?_
  refine Eq.trans (X_call f_48_206 (by decide) rfl rfl rfl rfl rfl rfl (Nat.le_of_ble_eq_true rfl) (Nat.le_of_ble_eq_true rfl) (decide_eq_true h0) (Nat.le_of_ble_eq_true rfl)) ?_
  exact mThen_eq fun v w9 => mX_mask rfl
theorem b_48_209 {d : Nat} {a0 : Nat} {a1 : Nat} {a3 : Nat} {x4 : Int32} {x5 : Int32} {y0 : Int32} {b1 : Nat} {w : MW} (h0 : mTg w b1 = 3) : mX (d + 1) 48 209 [.ref a0, .ref a1, mJ, .ref a3, .int x4, .int x5, mJ, mJ, mJ] [.int y0, .ref b1] w = mThen (mK d 49 [.ref b1, .int y0] w) (fun v w9 => mX (d + 1) 48 212 [.ref a0, .ref a1, mJ, .ref a3, .int x4, .int x5, mJ, mJ, mJ] (v.toList ++ []) w9) := by
  refine Eq.trans (X_call f_48_209 (by decide) rfl rfl rfl rfl rfl rfl (Nat.le_of_ble_eq_true rfl) (Nat.le_of_ble_eq_true rfl) (decide_eq_true h0) (Nat.le_of_ble_eq_true rfl)) ?_
  exact mThen_eq fun v w9 => mX_mask rfl
theorem b_48_212 {d : Nat} {a0 : Nat} {a1 : Nat} {a3 : Nat} {x4 : Int32} {x5 : Int32} {w : MW} : mX d 48 212 [.ref a0, .ref a1, mJ, .ref a3, .int x4, .int x5, mJ, mJ, mJ] [] w = mX d 48 411 [.ref a0, .ref a1, mJ, .ref a3, .int x4, .int x5, mJ, mJ, mJ] [] w := by
  refine Eq.trans (X_st f_48_212 rfl rfl) ?_
  exact mX_mask rfl
theorem b_48_215 {d : Nat} {a0 : Nat} {a1 : Nat} {a3 : Nat} {x4 : Int32} {x5 : Int32} {x7 : Int32} {w : MW} (h0 : mTg w a1 = 0) : mX (d + 1) 48 215 [.ref a0, .ref a1, mJ, .ref a3, .int x4, .int x5, mJ, .int x7, mJ] [] w = mThen (mK d 1 [.ref a1, .int x7] w) (fun v w9 => mX (d + 1) 48 222 [.ref a0, .ref a1, mJ, .ref a3, .int x4, .int x5, mJ, mJ, mJ] (v.toList ++ [.ref a0]) w9) := by
  refine Eq.trans (X_st f_48_215 rfl rfl) ?_
  refine Eq.trans (X_st f_48_216 rfl rfl) ?_
  refine Eq.trans (X_st f_48_217 rfl rfl) ?_
  refine Eq.trans (X_call f_48_219 (by decide) rfl rfl rfl rfl rfl rfl (Nat.le_of_ble_eq_true rfl) (Nat.le_of_ble_eq_true rfl) (decide_eq_true h0) (Nat.le_of_ble_eq_true rfl)) ?_
  exact mThen_eq fun v w9 => mX_mask rfl
theorem b_48_222 {d : Nat} {a0 : Nat} {a1 : Nat} {a3 : Nat} {x4 : Int32} {x5 : Int32} {b0 : Nat} {b1 : Nat} {w : MW} (h0 : mTg w b0 = 4) (h1 : mTg w b1 = 3) : mX (d + 1) 48 222 [.ref a0, .ref a1, mJ, .ref a3, .int x4, .int x5, mJ, mJ, mJ] [.ref b0, .ref b1] w = mThen (mK d 49 [.ref b1, .int (mI w b0 5)] w) (fun v w9 => mX (d + 1) 48 228 [.ref a0, .ref a1, mJ, .ref a3, .int x4, .int x5, mJ, mJ, mJ] (v.toList ++ []) w9) := by
  refine Eq.trans (X_getI f_48_222 h0 rfl) ?_
  refine Eq.trans (X_call f_48_225 (by decide) rfl rfl rfl rfl rfl rfl (Nat.le_of_ble_eq_true rfl) (Nat.le_of_ble_eq_true rfl) (decide_eq_true h1) (Nat.le_of_ble_eq_true rfl)) ?_
  exact mThen_eq fun v w9 => mX_mask rfl
theorem b_48_228 {d : Nat} {a0 : Nat} {a1 : Nat} {a3 : Nat} {x4 : Int32} {x5 : Int32} {w : MW} : mX d 48 228 [.ref a0, .ref a1, mJ, .ref a3, .int x4, .int x5, mJ, mJ, mJ] [] w = mX d 48 411 [.ref a0, .ref a1, mJ, .ref a3, .int x4, .int x5, mJ, mJ, mJ] [] w := by
  refine Eq.trans (X_st f_48_228 rfl rfl) ?_
  exact mX_mask rfl
theorem b_48_231 {d : Nat} {a0 : Nat} {a1 : Nat} {a3 : Nat} {x4 : Int32} {x5 : Int32} {x7 : Int32} {w : MW} (h0 : mTg w a1 = 0) : mX (d + 1) 48 231 [.ref a0, .ref a1, mJ, .ref a3, .int x4, .int x5, mJ, .int x7, mJ] [] w = mThen (mK d 1 [.ref a1, .int x7] w) (fun v w9 => mX (d + 1) 48 238 [.ref a0, .ref a1, mJ, .ref a3, .int x4, .int x5, mJ, mJ, mJ] (v.toList ++ [.ref a0]) w9) := by
  refine Eq.trans (X_st f_48_231 rfl rfl) ?_
  refine Eq.trans (X_st f_48_232 rfl rfl) ?_
  refine Eq.trans (X_st f_48_233 rfl rfl) ?_
  refine Eq.trans (X_call f_48_235 (by decide) rfl rfl rfl rfl rfl rfl (Nat.le_of_ble_eq_true rfl) (Nat.le_of_ble_eq_true rfl) (decide_eq_true h0) (Nat.le_of_ble_eq_true rfl)) ?_
  exact mThen_eq fun v w9 => mX_mask rfl
theorem b_48_238 {d : Nat} {a0 : Nat} {a1 : Nat} {a3 : Nat} {x4 : Int32} {x5 : Int32} {b0 : Nat} {b1 : Nat} {w : MW} (h0 : mTg w b0 = 4) (h1 : mTg w b1 = 3) : mX (d + 1) 48 238 [.ref a0, .ref a1, mJ, .ref a3, .int x4, .int x5, mJ, mJ, mJ] [.ref b0, .ref b1] w = mThen (mK d 49 [.ref b1, .int (mI w b0 6)] w) (fun v w9 => mX (d + 1) 48 244 [.ref a0, .ref a1, mJ, .ref a3, .int x4, .int x5, mJ, mJ, mJ] (v.toList ++ []) w9) := by
  refine Eq.trans (X_getI f_48_238 h0 rfl) ?_
  refine Eq.trans (X_call f_48_241 (by decide) rfl rfl rfl rfl rfl rfl (Nat.le_of_ble_eq_true rfl) (Nat.le_of_ble_eq_true rfl) (decide_eq_true h1) (Nat.le_of_ble_eq_true rfl)) ?_
  exact mThen_eq fun v w9 => mX_mask rfl
theorem b_48_244 {d : Nat} {a0 : Nat} {a1 : Nat} {a3 : Nat} {x4 : Int32} {x5 : Int32} {w : MW} : mX d 48 244 [.ref a0, .ref a1, mJ, .ref a3, .int x4, .int x5, mJ, mJ, mJ] [] w = mX d 48 411 [.ref a0, .ref a1, mJ, .ref a3, .int x4, .int x5, mJ, mJ, mJ] [] w := by
  refine Eq.trans (X_st f_48_244 rfl rfl) ?_
  exact mX_mask rfl
theorem b_48_247 {d : Nat} {a0 : Nat} {a1 : Nat} {a3 : Nat} {x4 : Int32} {x5 : Int32} {x7 : Int32} {w : MW} (h0 : mTg w a1 = 0) : mX (d + 1) 48 247 [.ref a0, .ref a1, mJ, .ref a3, .int x4, .int x5, mJ, .int x7, mJ] [] w = mThen (mK d 1 [.ref a1, .int x7] w) (fun v w9 => mX (d + 1) 48 254 [.ref a0, .ref a1, mJ, .ref a3, .int x4, .int x5, mJ, mJ, mJ] (v.toList ++ [.ref a0]) w9) := by
  refine Eq.trans (X_st f_48_247 rfl rfl) ?_
  refine Eq.trans (X_st f_48_248 rfl rfl) ?_
  refine Eq.trans (X_st f_48_249 rfl rfl) ?_
  refine Eq.trans (X_call f_48_251 (by decide) rfl rfl rfl rfl rfl rfl (Nat.le_of_ble_eq_true rfl) (Nat.le_of_ble_eq_true rfl) (decide_eq_true h0) (Nat.le_of_ble_eq_true rfl)) ?_
  exact mThen_eq fun v w9 => mX_mask rfl
theorem b_48_254 {d : Nat} {a0 : Nat} {a1 : Nat} {a3 : Nat} {x4 : Int32} {x5 : Int32} {b0 : Nat} {b1 : Nat} {w : MW} (h0 : mTg w b0 = 4) (h1 : mTg w b1 = 3) : mX (d + 1) 48 254 [.ref a0, .ref a1, mJ, .ref a3, .int x4, .int x5, mJ, mJ, mJ] [.ref b0, .ref b1] w = mThen (mK d 49 [.ref b1, .int (mI w b0 7)] w) (fun v w9 => mX (d + 1) 48 260 [.ref a0, .ref a1, mJ, .ref a3, .int x4, .int x5, mJ, mJ, mJ] (v.toList ++ []) w9) := by
  refine Eq.trans (X_getI f_48_254 h0 rfl) ?_
  refine Eq.trans (X_call f_48_257 (by decide) rfl rfl rfl rfl rfl rfl (Nat.le_of_ble_eq_true rfl) (Nat.le_of_ble_eq_true rfl) (decide_eq_true h1) (Nat.le_of_ble_eq_true rfl)) ?_
  exact mThen_eq fun v w9 => mX_mask rfl
theorem b_48_260 {d : Nat} {a0 : Nat} {a1 : Nat} {a3 : Nat} {x4 : Int32} {x5 : Int32} {w : MW} : mX d 48 260 [.ref a0, .ref a1, mJ, .ref a3, .int x4, .int x5, mJ, mJ, mJ] [] w = mX d 48 411 [.ref a0, .ref a1, mJ, .ref a3, .int x4, .int x5, mJ, mJ, mJ] [] w := by
  refine Eq.trans (X_st f_48_260 rfl rfl) ?_
  exact mX_mask rfl
theorem b_48_263 {d : Nat} {a0 : Nat} {a1 : Nat} {a3 : Nat} {x4 : Int32} {x5 : Int32} {x7 : Int32} {w : MW} : mX d 48 263 [.ref a0, .ref a1, mJ, .ref a3, .int x4, .int x5, mJ, .int x7, mJ] [] w = (if nI 0 ≤ x4 then mX d 48 273 [.ref a0, .ref a1, mJ, .ref a3, .int x4, .int x5, mJ, .int x7, mJ] [.ref a0] w else mX d 48 269 [.ref a0, .ref a1, mJ, .ref a3, .int x4, .int x5, mJ, mJ, mJ] [.ref a0] w) := by
  refine Eq.trans (X_st f_48_263 rfl rfl) ?_
  refine Eq.trans (X_st f_48_264 rfl rfl) ?_
  refine Eq.trans (X_br f_48_266 rfl rfl) ?_
  exact mIte_eq (mX_mask rfl) (mX_mask rfl)
theorem b_48_269 {d : Nat} {a0 : Nat} {a1 : Nat} {a3 : Nat} {x4 : Int32} {x5 : Int32} {b0 : Nat} {w : MW} : mX d 48 269 [.ref a0, .ref a1, mJ, .ref a3, .int x4, .int x5, mJ, mJ, mJ] [.ref b0] w = mX d 48 288 [.ref a0, .ref a1, mJ, .ref a3, .int x4, .int x5, mJ, mJ, mJ] [.int (nI 0), .ref b0] w := by
  refine Eq.trans (X_iconst f_48_269 kc_i_0) ?_
  refine Eq.trans (X_st f_48_270 rfl rfl) ?_
  exact mX_mask rfl
theorem b_48_273 {d : Nat} {a0 : Nat} {a1 : Nat} {a3 : Nat} {x4 : Int32} {x5 : Int32} {x7 : Int32} {b0 : Nat} {w : MW} (h0 : mTg w a3 = 8) : mX (d + 1) 48 273 [.ref a0, .ref a1, mJ, .ref a3, .int x4, .int x5, mJ, .int x7, mJ] [.ref b0] w = mThen (mK d 87 [.ref a3, .int x4] w) (fun v w9 => mX (d + 1) 48 279 [.ref a0, .ref a1, mJ, .ref a3, .int x4, .int x5, mJ, .int x7, mJ] (v.toList ++ [.ref b0]) w9) := by
  refine Eq.trans (X_st f_48_273 rfl rfl) ?_
  refine Eq.trans (X_st f_48_274 rfl rfl) ?_
  refine Eq.trans (X_call f_48_276 (by decide) rfl rfl rfl rfl rfl rfl (Nat.le_of_ble_eq_true rfl) (Nat.le_of_ble_eq_true rfl) (decide_eq_true h0) (Nat.le_of_ble_eq_true rfl)) ?_
  exact mThen_eq fun v w9 => mX_mask rfl
theorem b_48_279 {d : Nat} {a0 : Nat} {a1 : Nat} {a3 : Nat} {x4 : Int32} {x5 : Int32} {x7 : Int32} {y0 : Int32} {b1 : Nat} {w : MW} (h0 : mTg w a1 = 0) : mX (d + 1) 48 279 [.ref a0, .ref a1, mJ, .ref a3, .int x4, .int x5, mJ, .int x7, mJ] [.int y0, .ref b1] w = mThen (mK d 11 [.ref a1, .int x7, .int x4] w) (fun v w9 => mX (d + 1) 48 287 [.ref a0, .ref a1, mJ, .ref a3, .int x4, .int x5, mJ, mJ, mJ] (v.toList ++ [.int y0, .ref b1]) w9) := by
  refine Eq.trans (X_st f_48_279 rfl rfl) ?_
  refine Eq.trans (X_st f_48_280 rfl rfl) ?_
  refine Eq.trans (X_st f_48_282 rfl rfl) ?_
  refine Eq.trans (X_call f_48_284 (by decide) rfl rfl rfl rfl rfl rfl (Nat.le_of_ble_eq_true rfl) (Nat.le_of_ble_eq_true rfl) (decide_eq_true h0) (Nat.le_of_ble_eq_true rfl)) ?_
  exact mThen_eq fun v w9 => mX_mask rfl
theorem b_48_287 {d : Nat} {a0 : Nat} {a1 : Nat} {a3 : Nat} {x4 : Int32} {x5 : Int32} {y0 : Int32} {y1 : Int32} {b2 : Nat} {w : MW} : mX d 48 287 [.ref a0, .ref a1, mJ, .ref a3, .int x4, .int x5, mJ, mJ, mJ] [.int y0, .int y1, .ref b2] w = mX d 48 288 [.ref a0, .ref a1, mJ, .ref a3, .int x4, .int x5, mJ, mJ, mJ] [.int (y1 - y0), .ref b2] w := by
  refine Eq.trans (X_st f_48_287 rfl rfl) ?_
  exact mX_mask rfl
theorem b_48_288 {d : Nat} {a0 : Nat} {a1 : Nat} {a3 : Nat} {x4 : Int32} {x5 : Int32} {y0 : Int32} {b1 : Nat} {w : MW} (h0 : mTg w b1 = 3) : mX (d + 1) 48 288 [.ref a0, .ref a1, mJ, .ref a3, .int x4, .int x5, mJ, mJ, mJ] [.int y0, .ref b1] w = mThen (mK d 49 [.ref b1, .int y0] w) (fun v w9 => mX (d + 1) 48 291 [.ref a0, .ref a1, mJ, .ref a3, .int x4, .int x5, mJ, mJ, mJ] (v.toList ++ []) w9) := by
  refine Eq.trans (X_call f_48_288 (by decide) rfl rfl rfl rfl rfl rfl (Nat.le_of_ble_eq_true rfl) (Nat.le_of_ble_eq_true rfl) (decide_eq_true h0) (Nat.le_of_ble_eq_true rfl)) ?_
  exact mThen_eq fun v w9 => mX_mask rfl
theorem b_48_291 {d : Nat} {a0 : Nat} {a1 : Nat} {a3 : Nat} {x4 : Int32} {x5 : Int32} {w : MW} : mX d 48 291 [.ref a0, .ref a1, mJ, .ref a3, .int x4, .int x5, mJ, mJ, mJ] [] w = mX d 48 411 [.ref a0, .ref a1, mJ, .ref a3, .int x4, .int x5, mJ, mJ, mJ] [] w := by
  refine Eq.trans (X_st f_48_291 rfl rfl) ?_
  exact mX_mask rfl
theorem b_48_294 {d : Nat} {a0 : Nat} {a1 : Nat} {a3 : Nat} {x4 : Int32} {x5 : Int32} {x7 : Int32} {w : MW} (h0 : mTg w a3 = 8) : mX (d + 1) 48 294 [.ref a0, .ref a1, mJ, .ref a3, .int x4, .int x5, mJ, .int x7, mJ] [] w = mThen (mK d 87 [.ref a3, .int x7] w) (fun v w9 => mX (d + 1) 48 301 [.ref a0, .ref a1, mJ, .ref a3, .int x4, .int x5, mJ, mJ, mJ] (v.toList ++ [.ref a0]) w9) := by
  refine Eq.trans (X_st f_48_294 rfl rfl) ?_
  refine Eq.trans (X_st f_48_295 rfl rfl) ?_
  refine Eq.trans (X_st f_48_296 rfl rfl) ?_
  refine Eq.trans (X_call f_48_298 (by decide) rfl rfl rfl rfl rfl rfl (Nat.le_of_ble_eq_true rfl) (Nat.le_of_ble_eq_true rfl) (decide_eq_true h0) (Nat.le_of_ble_eq_true rfl)) ?_
  exact mThen_eq fun v w9 => mX_mask rfl
theorem b_48_301 {d : Nat} {a0 : Nat} {a1 : Nat} {a3 : Nat} {x4 : Int32} {x5 : Int32} {y0 : Int32} {b1 : Nat} {w : MW} (h0 : mTg w b1 = 3) : mX (d + 1) 48 301 [.ref a0, .ref a1, mJ, .ref a3, .int x4, .int x5, mJ, mJ, mJ] [.int y0, .ref b1] w = mThen (mK d 49 [.ref b1, .int y0] w) (fun v w9 => mX (d + 1) 48 304 [.ref a0, .ref a1, mJ, .ref a3, .int x4, .int x5, mJ, mJ, mJ] (v.toList ++ []) w9) := by
  refine Eq.trans (X_call f_48_301 (by decide) rfl rfl rfl rfl rfl rfl (Nat.le_of_ble_eq_true rfl) (Nat.le_of_ble_eq_true rfl) (decide_eq_true h0) (Nat.le_of_ble_eq_true rfl)) ?_
  exact mThen_eq fun v w9 => mX_mask rfl
theorem b_48_304 {d : Nat} {a0 : Nat} {a1 : Nat} {a3 : Nat} {x4 : Int32} {x5 : Int32} {w : MW} : mX d 48 304 [.ref a0, .ref a1, mJ, .ref a3, .int x4, .int x5, mJ, mJ, mJ] [] w = mX d 48 411 [.ref a0, .ref a1, mJ, .ref a3, .int x4, .int x5, mJ, mJ, mJ] [] w := by
  refine Eq.trans (X_st f_48_304 rfl rfl) ?_
  exact mX_mask rfl
theorem b_48_307 {d : Nat} {a0 : Nat} {a1 : Nat} {a3 : Nat} {x4 : Int32} {x5 : Int32} {x7 : Int32} {w : MW} (h0 : mTg w a1 = 0) : mX (d + 1) 48 307 [.ref a0, .ref a1, mJ, .ref a3, .int x4, .int x5, mJ, .int x7, mJ] [] w = mThen (mK d 1 [.ref a1, .int x7] w) (fun v w9 => mX (d + 1) 48 314 [.ref a0, .ref a1, mJ, .ref a3, .int x4, .int x5, mJ, mJ, mJ] (v.toList ++ [.ref a0]) w9) := by
  refine Eq.trans (X_st f_48_307 rfl rfl) ?_
  refine Eq.trans (X_st f_48_308 rfl rfl) ?_
  refine Eq.trans (X_st f_48_309 rfl rfl) ?_
  refine Eq.trans (X_call f_48_311 (by decide) rfl rfl rfl rfl rfl rfl (Nat.le_of_ble_eq_true rfl) (Nat.le_of_ble_eq_true rfl) (decide_eq_true h0) (Nat.le_of_ble_eq_true rfl)) ?_
  exact mThen_eq fun v w9 => mX_mask rfl
theorem b_48_314 {d : Nat} {a0 : Nat} {a1 : Nat} {a3 : Nat} {x4 : Int32} {x5 : Int32} {b0 : Nat} {b1 : Nat} {w : MW} (h0 : mTg w b0 = 4) : mX d 48 314 [.ref a0, .ref a1, mJ, .ref a3, .int x4, .int x5, mJ, mJ, mJ] [.ref b0, .ref b1] w = (if (mI w b0 2) = nI 0 then mX d 48 324 [.ref a0, .ref a1, mJ, .ref a3, .int x4, .int x5, mJ, mJ, mJ] [.ref b1] w else mX d 48 320 [.ref a0, .ref a1, mJ, .ref a3, .int x4, .int x5, mJ, mJ, mJ] [.ref b1] w) := by
  refine Eq.trans (X_getI f_48_314 h0 rfl) ?_
  refine Eq.trans (X_br f_48_317 rfl rfl) ?_
  exact mIte_eq (mX_mask rfl) (mX_mask rfl)
theorem b_48_320 {d : Nat} {a0 : Nat} {a1 : Nat} {a3 : Nat} {x4 : Int32} {x5 : Int32} {b0 : Nat} {w : MW} : mX d 48 320 [.ref a0, .ref a1, mJ, .ref a3, .int x4, .int x5, mJ, mJ, mJ] [.ref b0] w = mX d 48 325 [.ref a0, .ref a1, mJ, .ref a3, .int x4, .int x5, mJ, mJ, mJ] [.int (nI 1), .ref b0] w := by
  refine Eq.trans (X_iconst f_48_320 kc_i_1) ?_
  refine Eq.trans (X_st f_48_321 rfl rfl) ?_
  exact mX_mask rfl
theorem b_48_324 {d : Nat} {a0 : Nat} {a1 : Nat} {a3 : Nat} {x4 : Int32} {x5 : Int32} {b0 : Nat} {w : MW} : mX d 48 324 [.ref a0, .ref a1, mJ, .ref a3, .int x4, .int x5, mJ, mJ, mJ] [.ref b0] w = mX d 48 325 [.ref a0, .ref a1, mJ, .ref a3, .int x4, .int x5, mJ, mJ, mJ] [.int (nI 0), .ref b0] w := by
  refine Eq.trans (X_iconst f_48_324 kc_i_0) ?_
  exact mX_mask rfl
theorem b_48_325 {d : Nat} {a0 : Nat} {a1 : Nat} {a3 : Nat} {x4 : Int32} {x5 : Int32} {y0 : Int32} {b1 : Nat} {w : MW} (h0 : mTg w b1 = 3) : mX (d + 1) 48 325 [.ref a0, .ref a1, mJ, .ref a3, .int x4, .int x5, mJ, mJ, mJ] [.int y0, .ref b1] w = mThen (mK d 49 [.ref b1, .int y0] w) (fun v w9 => mX (d + 1) 48 328 [.ref a0, .ref a1, mJ, .ref a3, .int x4, .int x5, mJ, mJ, mJ] (v.toList ++ []) w9) := by
  refine Eq.trans (X_call f_48_325 (by decide) rfl rfl rfl rfl rfl rfl (Nat.le_of_ble_eq_true rfl) (Nat.le_of_ble_eq_true rfl) (decide_eq_true h0) (Nat.le_of_ble_eq_true rfl)) ?_
  exact mThen_eq fun v w9 => mX_mask rfl
theorem b_48_328 {d : Nat} {a0 : Nat} {a1 : Nat} {a3 : Nat} {x4 : Int32} {x5 : Int32} {w : MW} : mX d 48 328 [.ref a0, .ref a1, mJ, .ref a3, .int x4, .int x5, mJ, mJ, mJ] [] w = mX d 48 411 [.ref a0, .ref a1, mJ, .ref a3, .int x4, .int x5, mJ, mJ, mJ] [] w := by
  refine Eq.trans (X_st f_48_328 rfl rfl) ?_
  exact mX_mask rfl
theorem b_48_331 {d : Nat} {a0 : Nat} {a1 : Nat} {a3 : Nat} {x4 : Int32} {x5 : Int32} {x7 : Int32} {w : MW} (h0 : mTg w a1 = 0) : mX d 48 331 [.ref a0, .ref a1, mJ, .ref a3, .int x4, .int x5, mJ, .int x7, mJ] [] w = (if ¬ (mI w a1 11) = x7 then mX d 48 345 [.ref a0, .ref a1, mJ, .ref a3, .int x4, .int x5, mJ, mJ, mJ] [.ref a0] w else mX d 48 341 [.ref a0, .ref a1, mJ, .ref a3, .int x4, .int x5, mJ, mJ, mJ] [.ref a0] w) := by
  refine Eq.trans (X_st f_48_331 rfl rfl) ?_
  refine Eq.trans (X_st f_48_332 rfl rfl) ?_
  refine Eq.trans (X_getI f_48_333 h0 rfl) ?_
  refine Eq.trans (X_st f_48_336 rfl rfl) ?_
  refine Eq.trans (X_br f_48_338 rfl rfl) ?_
  exact mIte_eq (mX_mask rfl) (mX_mask rfl)
theorem b_48_341 {d : Nat} {a0 : Nat} {a1 : Nat} {a3 : Nat} {x4 : Int32} {x5 : Int32} {b0 : Nat} {w : MW} : mX d 48 341 [.ref a0, .ref a1, mJ, .ref a3, .int x4, .int x5, mJ, mJ, mJ] [.ref b0] w = mX d 48 346 [.ref a0, .ref a1, mJ, .ref a3, .int x4, .int x5, mJ, mJ, mJ] [.int (nI 1), .ref b0] w := by
  refine Eq.trans (X_iconst f_48_341 kc_i_1) ?_
  refine Eq.trans (X_st f_48_342 rfl rfl) ?_
  exact mX_mask rfl
theorem b_48_345 {d : Nat} {a0 : Nat} {a1 : Nat} {a3 : Nat} {x4 : Int32} {x5 : Int32} {b0 : Nat} {w : MW} : mX d 48 345 [.ref a0, .ref a1, mJ, .ref a3, .int x4, .int x5, mJ, mJ, mJ] [.ref b0] w = mX d 48 346 [.ref a0, .ref a1, mJ, .ref a3, .int x4, .int x5, mJ, mJ, mJ] [.int (nI 0), .ref b0] w := by
  refine Eq.trans (X_iconst f_48_345 kc_i_0) ?_
  exact mX_mask rfl
theorem b_48_346 {d : Nat} {a0 : Nat} {a1 : Nat} {a3 : Nat} {x4 : Int32} {x5 : Int32} {y0 : Int32} {b1 : Nat} {w : MW} (h0 : mTg w b1 = 3) : mX (d + 1) 48 346 [.ref a0, .ref a1, mJ, .ref a3, .int x4, .int x5, mJ, mJ, mJ] [.int y0, .ref b1] w = mThen (mK d 49 [.ref b1, .int y0] w) (fun v w9 => mX (d + 1) 48 349 [.ref a0, .ref a1, mJ, .ref a3, .int x4, .int x5, mJ, mJ, mJ] (v.toList ++ []) w9) := by
  refine Eq.trans (X_call f_48_346 (by decide) rfl rfl rfl rfl rfl rfl (Nat.le_of_ble_eq_true rfl) (Nat.le_of_ble_eq_true rfl) (decide_eq_true h0) (Nat.le_of_ble_eq_true rfl)) ?_
  exact mThen_eq fun v w9 => mX_mask rfl
theorem b_48_349 {d : Nat} {a0 : Nat} {a1 : Nat} {a3 : Nat} {x4 : Int32} {x5 : Int32} {w : MW} : mX d 48 349 [.ref a0, .ref a1, mJ, .ref a3, .int x4, .int x5, mJ, mJ, mJ] [] w = mX d 48 411 [.ref a0, .ref a1, mJ, .ref a3, .int x4, .int x5, mJ, mJ, mJ] [] w := by
  refine Eq.trans (X_st f_48_349 rfl rfl) ?_
  exact mX_mask rfl
theorem b_48_352 {d : Nat} {a0 : Nat} {a1 : Nat} {a3 : Nat} {x4 : Int32} {x5 : Int32} {w : MW} (h0 : mTg w a0 = 3) : mX (d + 1) 48 352 [.ref a0, .ref a1, mJ, .ref a3, .int x4, .int x5, mJ, mJ, mJ] [] w = mThen (mK d 50 [.ref a0] w) (fun v w9 => mX (d + 1) 48 358 [.ref a0, .ref a1, mJ, .ref a3, .int x4, .int x5, mJ, mJ, mJ] (v.toList ++ [.int (nI 1), .ref a0]) w9) := by
  refine Eq.trans (X_st f_48_352 rfl rfl) ?_
  refine Eq.trans (X_iconst f_48_353 kc_i_1) ?_
  refine Eq.trans (X_st f_48_354 rfl rfl) ?_
  refine Eq.trans (X_call f_48_355 (by decide) rfl rfl rfl rfl rfl rfl (Nat.le_of_ble_eq_true rfl) (Nat.le_of_ble_eq_true rfl) (decide_eq_true h0) (Nat.le_of_ble_eq_true rfl)) ?_
  exact mThen_eq fun v w9 => mX_mask rfl
theorem b_48_358 {d : Nat} {a0 : Nat} {a1 : Nat} {a3 : Nat} {x4 : Int32} {x5 : Int32} {y0 : Int32} {y1 : Int32} {b2 : Nat} {w : MW} (h0 : mTg w b2 = 3) : mX (d + 1) 48 358 [.ref a0, .ref a1, mJ, .ref a3, .int x4, .int x5, mJ, mJ, mJ] [.int y0, .int y1, .ref b2] w = mThen (mK d 49 [.ref b2, .int (y1 - y0)] w) (fun v w9 => mX (d + 1) 48 362 [.ref a0, .ref a1, mJ, .ref a3, .int x4, .int x5, mJ, mJ, mJ] (v.toList ++ []) w9) := by
  refine Eq.trans (X_st f_48_358 rfl rfl) ?_
  refine Eq.trans (X_call f_48_359 (by decide) rfl rfl rfl rfl rfl rfl (Nat.le_of_ble_eq_true rfl) (Nat.le_of_ble_eq_true rfl) (decide_eq_true h0) (Nat.le_of_ble_eq_true rfl)) ?_
  exact mThen_eq fun v w9 => mX_mask rfl
theorem b_48_362 {d : Nat} {a0 : Nat} {a1 : Nat} {a3 : Nat} {x4 : Int32} {x5 : Int32} {w : MW} : mX d 48 362 [.ref a0, .ref a1, mJ, .ref a3, .int x4, .int x5, mJ, mJ, mJ] [] w = mX d 48 411 [.ref a0, .ref a1, mJ, .ref a3, .int x4, .int x5, mJ, mJ, mJ] [] w := by
  refine Eq.trans (X_st f_48_362 rfl rfl) ?_
  exact mX_mask rfl
theorem b_48_365 {d : Nat} {a0 : Nat} {a1 : Nat} {a3 : Nat} {x4 : Int32} {x5 : Int32} {w : MW} (h0 : mTg w a0 = 3) : mX (d + 1) 48 365 [.ref a0, .ref a1, mJ, .ref a3, .int x4, .int x5, mJ, mJ, mJ] [] w = mThen (mK d 50 [.ref a0] w) (fun v w9 => mX (d + 1) 48 370 [.ref a0, .ref a1, mJ, .ref a3, .int x4, .int x5, mJ, mJ, mJ] (v.toList ++ [.ref a0]) w9) := by
  refine Eq.trans (X_st f_48_365 rfl rfl) ?_
  refine Eq.trans (X_st f_48_366 rfl rfl) ?_
  refine Eq.trans (X_call f_48_367 (by decide) rfl rfl rfl rfl rfl rfl (Nat.le_of_ble_eq_true rfl) (Nat.le_of_ble_eq_true rfl) (decide_eq_true h0) (Nat.le_of_ble_eq_true rfl)) ?_
  exact mThen_eq fun v w9 => mX_mask rfl
theorem b_48_370 {d : Nat} {a0 : Nat} {a1 : Nat} {a3 : Nat} {x4 : Int32} {x5 : Int32} {y0 : Int32} {b1 : Nat} {w : MW} (h0 : mTg w b1 = 3) : mX (d + 1) 48 370 [.ref a0, .ref a1, mJ, .ref a3, .int x4, .int x5, mJ, mJ, mJ] [.int y0, .ref b1] w = mThen (mK d 49 [.ref b1, .int (-y0)] w) (fun v w9 => mX (d + 1) 48 374 [.ref a0, .ref a1, mJ, .ref a3, .int x4, .int x5, mJ, mJ, mJ] (v.toList ++ []) w9) := by
  refine Eq.trans (X_st f_48_370 rfl rfl) ?_
  refine Eq.trans (X_call f_48_371 (by decide) rfl rfl rfl rfl rfl rfl (Nat.le_of_ble_eq_true rfl) (Nat.le_of_ble_eq_true rfl) (decide_eq_true h0) (Nat.le_of_ble_eq_true rfl)) ?_
  exact mThen_eq fun v w9 => mX_mask rfl
theorem b_48_374 {d : Nat} {a0 : Nat} {a1 : Nat} {a3 : Nat} {x4 : Int32} {x5 : Int32} {w : MW} : mX d 48 374 [.ref a0, .ref a1, mJ, .ref a3, .int x4, .int x5, mJ, mJ, mJ] [] w = mX d 48 411 [.ref a0, .ref a1, mJ, .ref a3, .int x4, .int x5, mJ, mJ, mJ] [] w := by
  refine Eq.trans (X_st f_48_374 rfl rfl) ?_
  exact mX_mask rfl
theorem b_48_377 {d : Nat} {a0 : Nat} {w : MW} (h0 : mTg w a0 = 3) : mX (d + 1) 48 377 [.ref a0, mJ, mJ, mJ, mJ, mJ, mJ, mJ, mJ] [] w = mThen (mK d 50 [.ref a0] w) (fun v w9 => mX (d + 1) 48 381 [mJ, mJ, mJ, mJ, mJ, mJ, mJ, mJ, mJ] (v.toList ++ []) w9) := by
  refine Eq.trans (X_st f_48_377 rfl rfl) ?_
  refine Eq.trans (X_call f_48_378 (by decide) rfl rfl rfl rfl rfl rfl (Nat.le_of_ble_eq_true rfl) (Nat.le_of_ble_eq_true rfl) (decide_eq_true h0) (Nat.le_of_ble_eq_true rfl)) ?_
  exact mThen_eq fun v w9 => mX_mask rfl
theorem b_48_381 {d : Nat} {y0 : Int32} {w : MW} : mX d 48 381 [mJ, mJ, mJ, mJ, mJ, mJ, mJ, mJ, mJ] [.int y0] w = (if y0 = nI 0 then mX d 48 388 [mJ, mJ, mJ, mJ, mJ, mJ, mJ, mJ, mJ] [] w else mX d 48 384 [mJ, mJ, mJ, mJ, mJ, mJ, mJ, mJ, mJ] [] w) := by
  refine Eq.trans (X_br f_48_381 rfl rfl) ?_
  exact mIte_eq (mX_mask rfl) (mX_mask rfl)
theorem b_48_384 {d : Nat} {w : MW} : mX d 48 384 [mJ, mJ, mJ, mJ, mJ, mJ, mJ, mJ, mJ] [] w = mX d 48 389 [mJ, mJ, mJ, mJ, mJ, mJ, mJ, mJ, mJ] [.int (nI 1)] w := by
  refine Eq.trans (X_iconst f_48_384 kc_i_1) ?_
  refine Eq.trans (X_st f_48_385 rfl rfl) ?_
  exact mX_mask rfl
theorem b_48_388 {d : Nat} {w : MW} : mX d 48 388 [mJ, mJ, mJ, mJ, mJ, mJ, mJ, mJ, mJ] [] w = mX d 48 389 [mJ, mJ, mJ, mJ, mJ, mJ, mJ, mJ, mJ] [.int (nI 0)] w := by
  refine Eq.trans (X_iconst f_48_388 kc_i_0) ?_
  exact mX_mask rfl
theorem b_48_389 {d : Nat} {y0 : Int32} {w : MW} (h0 : mRk 2 y0 = true) : mX d 48 389 [mJ, mJ, mJ, mJ, mJ, mJ, mJ, mJ, mJ] [.int y0] w = some (.inl (some (.int y0)), w) := by
  exact X_ireturn f_48_389 h0
theorem b_48_390 {d : Nat} {a0 : Nat} {a1 : Nat} {a3 : Nat} {x4 : Int32} {x5 : Int32} {x6 : Int32} {w : MW} (h0 : mTg w a0 = 3) : mX (d + 1) 48 390 [.ref a0, .ref a1, mJ, .ref a3, .int x4, .int x5, .int x6, mJ, mJ] [] w = mThen (mK d 50 [.ref a0] w) (fun v w9 => mX (d + 1) 48 394 [.ref a0, .ref a1, mJ, .ref a3, .int x4, .int x5, .int x6, mJ, mJ] (v.toList ++ []) w9) := by
  refine Eq.trans (X_st f_48_390 rfl rfl) ?_
  refine Eq.trans (X_call f_48_391 (by decide) rfl rfl rfl rfl rfl rfl (Nat.le_of_ble_eq_true rfl) (Nat.le_of_ble_eq_true rfl) (decide_eq_true h0) (Nat.le_of_ble_eq_true rfl)) ?_
  exact mThen_eq fun v w9 => mX_mask rfl
theorem b_48_394 {d : Nat} {a0 : Nat} {a1 : Nat} {a3 : Nat} {x4 : Int32} {x5 : Int32} {x6 : Int32} {y0 : Int32} {w : MW} (h0 : mTg w a0 = 3) : mX (d + 1) 48 394 [.ref a0, .ref a1, mJ, .ref a3, .int x4, .int x5, .int x6, mJ, mJ] [.int y0] w = mThen (mK d 50 [.ref a0] w) (fun v w9 => mX (d + 1) 48 403 [.ref a0, .ref a1, mJ, .ref a3, .int x4, .int x5, mJ, mJ, .int y0] (v.toList ++ [.int x6, .ref a0]) w9) := by
  refine Eq.trans (X_istore (L' := [.ref a0, .ref a1, mJ, .ref a3, .int x4, .int x5, .int x6, mJ, .int y0]) f_48_394 (Nat.le_of_ble_eq_true rfl) rfl) ?_
  refine Eq.trans (X_st f_48_396 rfl rfl) ?_
  refine Eq.trans (X_st f_48_397 rfl rfl) ?_
  refine Eq.trans (X_st f_48_399 rfl rfl) ?_
  refine Eq.trans (X_call f_48_400 (by decide) rfl rfl rfl rfl rfl rfl (Nat.le_of_ble_eq_true rfl) (Nat.le_of_ble_eq_true rfl) (decide_eq_true h0) (Nat.le_of_ble_eq_true rfl)) ?_
  exact mThen_eq fun v w9 => mX_mask rfl
theorem b_48_403 {d : Nat} {a0 : Nat} {a1 : Nat} {a3 : Nat} {x4 : Int32} {x5 : Int32} {x8 : Int32} {y0 : Int32} {y1 : Int32} {b2 : Nat} {w : MW} : mX (d + 1) 48 403 [.ref a0, .ref a1, mJ, .ref a3, .int x4, .int x5, mJ, mJ, .int x8] [.int y0, .int y1, .ref b2] w = mThen (mK d 51 [.int y1, .int y0, .int x8] w) (fun v w9 => mX (d + 1) 48 408 [.ref a0, .ref a1, mJ, .ref a3, .int x4, .int x5, mJ, mJ, mJ] (v.toList ++ [.ref b2]) w9) := by
  refine Eq.trans (X_st f_48_403 rfl rfl) ?_
  refine Eq.trans (X_call f_48_405 (by decide) rfl rfl rfl rfl rfl rfl (Nat.le_of_ble_eq_true rfl) (Nat.le_of_ble_eq_true rfl) rfl (Nat.le_of_ble_eq_true rfl)) ?_
  exact mThen_eq fun v w9 => mX_mask rfl
theorem b_48_408 {d : Nat} {a0 : Nat} {a1 : Nat} {a3 : Nat} {x4 : Int32} {x5 : Int32} {y0 : Int32} {b1 : Nat} {w : MW} (h0 : mTg w b1 = 3) : mX (d + 1) 48 408 [.ref a0, .ref a1, mJ, .ref a3, .int x4, .int x5, mJ, mJ, mJ] [.int y0, .ref b1] w = mThen (mK d 49 [.ref b1, .int y0] w) (fun v w9 => mX (d + 1) 48 411 [.ref a0, .ref a1, mJ, .ref a3, .int x4, .int x5, mJ, mJ, mJ] (v.toList ++ []) w9) := by
  refine Eq.trans (X_call f_48_408 (by decide) rfl rfl rfl rfl rfl rfl (Nat.le_of_ble_eq_true rfl) (Nat.le_of_ble_eq_true rfl) (decide_eq_true h0) (Nat.le_of_ble_eq_true rfl)) ?_
  exact mThen_eq fun v w9 => mX_mask rfl
theorem b_48_411 {d : Nat} {a0 : Nat} {a1 : Nat} {a3 : Nat} {x4 : Int32} {x5 : Int32} {w : MW} : mX d 48 411 [.ref a0, .ref a1, mJ, .ref a3, .int x4, .int x5, mJ, mJ, mJ] [] w = mX d 48 26 [.ref a0, .ref a1, mJ, .ref a3, .int x4, .int (x5 + (nI 1)), mJ, mJ, mJ] [] w := by
  refine Eq.trans (X_iinc f_48_411 kc_i_1 rfl rfl) ?_
  refine Eq.trans (X_st f_48_414 rfl rfl) ?_
  exact mX_mask rfl
theorem b_48_417 {d : Nat} {w : MW} : mX d 48 417 [mJ, mJ, mJ, mJ, mJ, mJ, mJ, mJ, mJ] [] w = some (.inl (some (.int (nI 0))), w) := by
  refine Eq.trans (X_iconst f_48_417 kc_i_0) ?_
  exact X_ireturn f_48_418 rfl
/-! BeeTurnpike$Reckoner push (I)V -/
theorem f_49_0 : mFetch 49 0 = some (.aload_n 0, 1, []) := by decide +kernel
theorem f_49_1 : mFetch 49 1 = some (.getfield 9, 3, [3, 0, 0, 321]) := by decide +kernel
theorem f_49_4 : mFetch 49 4 = some (.aload_n 0, 1, []) := by decide +kernel
theorem f_49_5 : mFetch 49 5 = some (.getfield 25, 3, [3, 1, 0, 322]) := by decide +kernel
theorem f_49_8 : mFetch 49 8 = some (.iload_n 1, 1, []) := by decide +kernel
theorem f_49_9 : mFetch 49 9 = some (.invokestatic 98, 3, [124, 3, 1, 0, 58, 689]) := by decide +kernel
theorem f_49_12 : mFetch 49 12 = some (.aload_n 0, 1, []) := by decide +kernel
theorem f_49_13 : mFetch 49 13 = some (.dup, 1, []) := by decide +kernel
theorem f_49_14 : mFetch 49 14 = some (.getfield 25, 3, [3, 1, 0, 322]) := by decide +kernel
theorem f_49_17 : mFetch 49 17 = some (.iconst 1, 1, []) := by decide +kernel
theorem f_49_18 : mFetch 49 18 = some (.iadd, 1, []) := by decide +kernel
theorem f_49_19 : mFetch 49 19 = some (.putfield 25, 3, [3, 1, 0, 322]) := by decide +kernel
theorem f_49_22 : mFetch 49 22 = some (.return_, 1, []) := by decide +kernel
theorem b_49_0 {d : Nat} {a0 : Nat} {x1 : Int32} {w : MW} (h0 : mTg w a0 = 3) (h1 : mR w a0 0 = some (gR w a0 0)) : mX (d + 1) 49 0 [.ref a0, .int x1] [] w = mThen (mK d 124 [.ref (gR w a0 0), .int (mI w a0 1), .int x1] w) (fun v w9 => mX (d + 1) 49 12 [.ref a0, mJ] (v.toList ++ []) w9) := by
  refine Eq.trans (X_st f_49_0 rfl rfl) ?_
  refine Eq.trans (X_getR f_49_1 h0 rfl h1) ?_
  refine Eq.trans (X_st f_49_4 rfl rfl) ?_
  refine Eq.trans (X_getI f_49_5 h0 rfl) ?_
  refine Eq.trans (X_st f_49_8 rfl rfl) ?_
  refine Eq.trans (X_call f_49_9 (by decide) rfl rfl rfl rfl rfl rfl (Nat.le_of_ble_eq_true rfl) (Nat.le_of_ble_eq_true rfl) rfl (Nat.le_of_ble_eq_true rfl)) ?_
  exact mThen_eq fun v w9 => mX_mask rfl
theorem e_49 {d : Nat} {a0 : Nat} {x1 : Int32} {w : MW} : mK d 49 [.ref a0, .int x1] w = mX d 49 0 [.ref a0, .int x1] [] w := rfl
theorem b_49_12 {d : Nat} {a0 : Nat} {w : MW} (h0 : mTg w a0 = 3) (h1 : mE ≤ a0) : mX d 49 12 [.ref a0, mJ] [] w = some (.inl none, wI w a0 1 ((mI w a0 1) + (nI 1))) := by
  refine Eq.trans (X_st f_49_12 rfl rfl) ?_
  refine Eq.trans (X_dup f_49_13 rfl) ?_
  refine Eq.trans (X_getI f_49_14 h0 rfl) ?_
  refine Eq.trans (X_iconst f_49_17 kc_i_1) ?_
  refine Eq.trans (X_st f_49_18 rfl rfl) ?_
  refine Eq.trans (X_putI f_49_19 h0 h1 rfl rfl) ?_
  exact X_ret f_49_22 rfl rfl
/-! BeeTurnpike$Reckoner pop ()I -/
theorem f_50_0 : mFetch 50 0 = some (.aload_n 0, 1, []) := by decide +kernel
theorem f_50_1 : mFetch 50 1 = some (.dup, 1, []) := by decide +kernel
theorem f_50_2 : mFetch 50 2 = some (.getfield 25, 3, [3, 1, 0, 322]) := by decide +kernel
theorem f_50_5 : mFetch 50 5 = some (.iconst 1, 1, []) := by decide +kernel
theorem f_50_6 : mFetch 50 6 = some (.isub, 1, []) := by decide +kernel
theorem f_50_7 : mFetch 50 7 = some (.putfield 25, 3, [3, 1, 0, 322]) := by decide +kernel
theorem f_50_10 : mFetch 50 10 = some (.aload_n 0, 1, []) := by decide +kernel
theorem f_50_11 : mFetch 50 11 = some (.getfield 9, 3, [3, 0, 0, 321]) := by decide +kernel
theorem f_50_14 : mFetch 50 14 = some (.aload_n 0, 1, []) := by decide +kernel
theorem f_50_15 : mFetch 50 15 = some (.getfield 25, 3, [3, 1, 0, 322]) := by decide +kernel
theorem f_50_18 : mFetch 50 18 = some (.invokestatic 34, 3, [123, 2, 1, 0, 47, 559]) := by decide +kernel
theorem f_50_21 : mFetch 50 21 = some (.ireturn, 1, [0]) := by decide +kernel
theorem b_50_0 {d : Nat} {a0 : Nat} {w : MW} (h0 : mTg w a0 = 3) (h1 : mE ≤ a0) (h2 : mTg (wI w a0 1 ((mI w a0 1) - (nI 1))) a0 = 3) (h3 : mR (wI w a0 1 ((mI w a0 1) - (nI 1))) a0 0 = some (gR (wI w a0 1 ((mI w a0 1) - (nI 1))) a0 0)) : mX (d + 1) 50 0 [.ref a0] [] w = mThen (mK d 123 [.ref (gR (wI w a0 1 ((mI w a0 1) - (nI 1))) a0 0), .int (mI (wI w a0 1 ((mI w a0 1) - (nI 1))) a0 1)] (wI w a0 1 ((mI w a0 1) - (nI 1)))) (fun v w9 => mX (d + 1) 50 21 [mJ] (v.toList ++ []) w9) := by
  refine Eq.trans (X_st f_50_0 rfl rfl) ?_
  refine Eq.trans (X_dup f_50_1 rfl) ?_
  refine Eq.trans (X_getI f_50_2 h0 rfl) ?_
  refine Eq.trans (X_iconst f_50_5 kc_i_1) ?_
  refine Eq.trans (X_st f_50_6 rfl rfl) ?_
  refine Eq.trans (X_putI f_50_7 h0 h1 rfl rfl) ?_
  refine Eq.trans (X_st f_50_10 rfl rfl) ?_
  refine Eq.trans (X_getR f_50_11 h2 rfl h3) ?_
  refine Eq.trans (X_st f_50_14 rfl rfl) ?_
  refine Eq.trans (X_getI f_50_15 h2 rfl) ?_
  refine Eq.trans (X_call f_50_18 (by decide) rfl rfl rfl rfl rfl rfl (Nat.le_of_ble_eq_true rfl) (Nat.le_of_ble_eq_true rfl) rfl (Nat.le_of_ble_eq_true rfl)) ?_
  exact mThen_eq fun v w9 => mX_mask rfl
theorem e_50 {d : Nat} {a0 : Nat} {w : MW} : mK d 50 [.ref a0] w = mX d 50 0 [.ref a0] [] w := rfl
theorem b_50_21 {d : Nat} {y0 : Int32} {w : MW} : mX d 50 21 [mJ] [.int y0] w = some (.inl (some (.int y0)), w) := by
  exact X_ireturn f_50_21 rfl
/-! BeeTurnpike$Reckoner join (III)I -/
theorem f_51_0 : mFetch 51 0 = some (.iload_n 0, 1, []) := by decide +kernel
theorem f_51_1 : mFetch 51 1 = some (.lookupswitch 202 #[(27, 198), (29, 131), (30, 137), (42, 115), (43, 107), (45, 111), (47, 119), (60, 143), (61, 165), (62, 154), (256, 176), (257, 187)], 107, [203, 199, 132, 138, 116, 108, 112, 120, 144, 166, 155, 177, 188]) := by decide +kernel
theorem f_51_108 : mFetch 51 108 = some (.iload_n 1, 1, []) := by decide +kernel
theorem f_51_109 : mFetch 51 109 = some (.iload_n 2, 1, []) := by decide +kernel
theorem f_51_110 : mFetch 51 110 = some (.iadd, 1, []) := by decide +kernel
theorem f_51_111 : mFetch 51 111 = some (.ireturn, 1, [0]) := by decide +kernel
theorem f_51_112 : mFetch 51 112 = some (.iload_n 1, 1, []) := by decide +kernel
theorem f_51_113 : mFetch 51 113 = some (.iload_n 2, 1, []) := by decide +kernel
theorem f_51_114 : mFetch 51 114 = some (.isub, 1, []) := by decide +kernel
theorem f_51_115 : mFetch 51 115 = some (.ireturn, 1, [0]) := by decide +kernel
theorem f_51_116 : mFetch 51 116 = some (.iload_n 1, 1, []) := by decide +kernel
theorem f_51_117 : mFetch 51 117 = some (.iload_n 2, 1, []) := by decide +kernel
theorem f_51_118 : mFetch 51 118 = some (.imul, 1, []) := by decide +kernel
theorem f_51_119 : mFetch 51 119 = some (.ireturn, 1, [0]) := by decide +kernel
theorem f_51_120 : mFetch 51 120 = some (.iload_n 2, 1, []) := by decide +kernel
theorem f_51_121 : mFetch 51 121 = some (.ifCond .ne 7, 3, [128]) := by decide +kernel
theorem f_51_124 : mFetch 51 124 = some (.iconst 0, 1, []) := by decide +kernel
theorem f_51_125 : mFetch 51 125 = some (.goto 6, 3, [131]) := by decide +kernel
theorem f_51_128 : mFetch 51 128 = some (.iload_n 1, 1, []) := by decide +kernel
theorem f_51_129 : mFetch 51 129 = some (.iload_n 2, 1, []) := by decide +kernel
theorem f_51_130 : mFetch 51 130 = some (.idiv, 1, []) := by decide +kernel
theorem f_51_131 : mFetch 51 131 = some (.ireturn, 1, [0]) := by decide +kernel
theorem f_51_132 : mFetch 51 132 = some (.iload_n 1, 1, []) := by decide +kernel
theorem f_51_133 : mFetch 51 133 = some (.iload_n 2, 1, []) := by decide +kernel
theorem f_51_134 : mFetch 51 134 = some (.invokestatic 102, 3, [183, 2, 0, 0, 702, 639]) := by decide +kernel
theorem f_51_137 : mFetch 51 137 = some (.ireturn, 1, [0]) := by decide +kernel
theorem f_51_138 : mFetch 51 138 = some (.iload_n 1, 1, []) := by decide +kernel
theorem f_51_139 : mFetch 51 139 = some (.iload_n 2, 1, []) := by decide +kernel
theorem f_51_140 : mFetch 51 140 = some (.invokestatic 107, 3, [182, 2, 0, 0, 703, 704]) := by decide +kernel
theorem f_51_143 : mFetch 51 143 = some (.ireturn, 1, [0]) := by decide +kernel
theorem f_51_144 : mFetch 51 144 = some (.iload_n 1, 1, []) := by decide +kernel
theorem f_51_145 : mFetch 51 145 = some (.iload_n 2, 1, []) := by decide +kernel
theorem f_51_146 : mFetch 51 146 = some (.if_icmp .ge 7, 3, [153]) := by decide +kernel
theorem f_51_149 : mFetch 51 149 = some (.iconst 1, 1, []) := by decide +kernel
theorem f_51_150 : mFetch 51 150 = some (.goto 4, 3, [154]) := by decide +kernel
theorem f_51_153 : mFetch 51 153 = some (.iconst 0, 1, []) := by decide +kernel
theorem f_51_154 : mFetch 51 154 = some (.ireturn, 1, [0]) := by decide +kernel
theorem f_51_155 : mFetch 51 155 = some (.iload_n 1, 1, []) := by decide +kernel
theorem f_51_156 : mFetch 51 156 = some (.iload_n 2, 1, []) := by decide +kernel
theorem f_51_157 : mFetch 51 157 = some (.if_icmp .le 7, 3, [164]) := by decide +kernel
theorem f_51_160 : mFetch 51 160 = some (.iconst 1, 1, []) := by decide +kernel
theorem f_51_161 : mFetch 51 161 = some (.goto 4, 3, [165]) := by decide +kernel
theorem f_51_164 : mFetch 51 164 = some (.iconst 0, 1, []) := by decide +kernel
theorem f_51_165 : mFetch 51 165 = some (.ireturn, 1, [0]) := by decide +kernel
theorem f_51_166 : mFetch 51 166 = some (.iload_n 1, 1, []) := by decide +kernel
theorem f_51_167 : mFetch 51 167 = some (.iload_n 2, 1, []) := by decide +kernel
theorem f_51_168 : mFetch 51 168 = some (.if_icmp .ne 7, 3, [175]) := by decide +kernel
theorem f_51_171 : mFetch 51 171 = some (.iconst 1, 1, []) := by decide +kernel
theorem f_51_172 : mFetch 51 172 = some (.goto 4, 3, [176]) := by decide +kernel
theorem f_51_175 : mFetch 51 175 = some (.iconst 0, 1, []) := by decide +kernel
theorem f_51_176 : mFetch 51 176 = some (.ireturn, 1, [0]) := by decide +kernel
theorem f_51_177 : mFetch 51 177 = some (.iload_n 1, 1, []) := by decide +kernel
theorem f_51_178 : mFetch 51 178 = some (.iload_n 2, 1, []) := by decide +kernel
theorem f_51_179 : mFetch 51 179 = some (.if_icmp .gt 7, 3, [186]) := by decide +kernel
theorem f_51_182 : mFetch 51 182 = some (.iconst 1, 1, []) := by decide +kernel
theorem f_51_183 : mFetch 51 183 = some (.goto 4, 3, [187]) := by decide +kernel
theorem f_51_186 : mFetch 51 186 = some (.iconst 0, 1, []) := by decide +kernel
theorem f_51_187 : mFetch 51 187 = some (.ireturn, 1, [0]) := by decide +kernel
theorem f_51_188 : mFetch 51 188 = some (.iload_n 1, 1, []) := by decide +kernel
theorem f_51_189 : mFetch 51 189 = some (.iload_n 2, 1, []) := by decide +kernel
theorem f_51_190 : mFetch 51 190 = some (.if_icmp .lt 7, 3, [197]) := by decide +kernel
theorem f_51_193 : mFetch 51 193 = some (.iconst 1, 1, []) := by decide +kernel
theorem f_51_194 : mFetch 51 194 = some (.goto 4, 3, [198]) := by decide +kernel
theorem f_51_197 : mFetch 51 197 = some (.iconst 0, 1, []) := by decide +kernel
theorem f_51_198 : mFetch 51 198 = some (.ireturn, 1, [0]) := by decide +kernel
theorem f_51_199 : mFetch 51 199 = some (.iload_n 1, 1, []) := by decide +kernel
theorem f_51_200 : mFetch 51 200 = some (.iload_n 2, 1, []) := by decide +kernel
theorem f_51_201 : mFetch 51 201 = some (.iand, 1, []) := by decide +kernel
theorem f_51_202 : mFetch 51 202 = some (.ireturn, 1, [0]) := by decide +kernel
theorem f_51_203 : mFetch 51 203 = some (.iload_n 1, 1, []) := by decide +kernel
theorem f_51_204 : mFetch 51 204 = some (.iload_n 2, 1, []) := by decide +kernel
theorem f_51_205 : mFetch 51 205 = some (.ior, 1, []) := by decide +kernel
theorem f_51_206 : mFetch 51 206 = some (.ireturn, 1, [0]) := by decide +kernel
theorem s_51_0_27 {d : Nat} {x0 : Int32} {x1 : Int32} {x2 : Int32} {w : MW} (h0 : x0 = (nI 27)) : mX d 51 0 [.int x0, .int x1, .int x2] [] w = mX d 51 199 [mJ, .int x1, .int x2] [] w := by
  refine Eq.trans (X_st f_51_0 rfl rfl) ?_
  refine Eq.trans (X_sw f_51_1 rfl (congrArg Value.int h0) rfl) ?_
  exact mX_mask rfl
theorem s_51_0_29 {d : Nat} {x0 : Int32} {x1 : Int32} {x2 : Int32} {w : MW} (h0 : x0 = (nI 29)) : mX d 51 0 [.int x0, .int x1, .int x2] [] w = mX d 51 132 [mJ, .int x1, .int x2] [] w := by
  refine Eq.trans (X_st f_51_0 rfl rfl) ?_
  refine Eq.trans (X_sw f_51_1 rfl (congrArg Value.int h0) rfl) ?_
  exact mX_mask rfl
theorem s_51_0_30 {d : Nat} {x0 : Int32} {x1 : Int32} {x2 : Int32} {w : MW} (h0 : x0 = (nI 30)) : mX d 51 0 [.int x0, .int x1, .int x2] [] w = mX d 51 138 [mJ, .int x1, .int x2] [] w := by
  refine Eq.trans (X_st f_51_0 rfl rfl) ?_
  refine Eq.trans (X_sw f_51_1 rfl (congrArg Value.int h0) rfl) ?_
  exact mX_mask rfl
theorem s_51_0_42 {d : Nat} {x0 : Int32} {x1 : Int32} {x2 : Int32} {w : MW} (h0 : x0 = (nI 42)) : mX d 51 0 [.int x0, .int x1, .int x2] [] w = mX d 51 116 [mJ, .int x1, .int x2] [] w := by
  refine Eq.trans (X_st f_51_0 rfl rfl) ?_
  refine Eq.trans (X_sw f_51_1 rfl (congrArg Value.int h0) rfl) ?_
  exact mX_mask rfl
theorem s_51_0_43 {d : Nat} {x0 : Int32} {x1 : Int32} {x2 : Int32} {w : MW} (h0 : x0 = (nI 43)) : mX d 51 0 [.int x0, .int x1, .int x2] [] w = mX d 51 108 [mJ, .int x1, .int x2] [] w := by
  refine Eq.trans (X_st f_51_0 rfl rfl) ?_
  refine Eq.trans (X_sw f_51_1 rfl (congrArg Value.int h0) rfl) ?_
  exact mX_mask rfl
theorem s_51_0_45 {d : Nat} {x0 : Int32} {x1 : Int32} {x2 : Int32} {w : MW} (h0 : x0 = (nI 45)) : mX d 51 0 [.int x0, .int x1, .int x2] [] w = mX d 51 112 [mJ, .int x1, .int x2] [] w := by
  refine Eq.trans (X_st f_51_0 rfl rfl) ?_
  refine Eq.trans (X_sw f_51_1 rfl (congrArg Value.int h0) rfl) ?_
  exact mX_mask rfl
theorem s_51_0_47 {d : Nat} {x0 : Int32} {x1 : Int32} {x2 : Int32} {w : MW} (h0 : x0 = (nI 47)) : mX d 51 0 [.int x0, .int x1, .int x2] [] w = mX d 51 120 [mJ, .int x1, .int x2] [] w := by
  refine Eq.trans (X_st f_51_0 rfl rfl) ?_
  refine Eq.trans (X_sw f_51_1 rfl (congrArg Value.int h0) rfl) ?_
  exact mX_mask rfl
theorem s_51_0_60 {d : Nat} {x0 : Int32} {x1 : Int32} {x2 : Int32} {w : MW} (h0 : x0 = (nI 60)) : mX d 51 0 [.int x0, .int x1, .int x2] [] w = mX d 51 144 [mJ, .int x1, .int x2] [] w := by
  refine Eq.trans (X_st f_51_0 rfl rfl) ?_
  refine Eq.trans (X_sw f_51_1 rfl (congrArg Value.int h0) rfl) ?_
  exact mX_mask rfl
theorem s_51_0_61 {d : Nat} {x0 : Int32} {x1 : Int32} {x2 : Int32} {w : MW} (h0 : x0 = (nI 61)) : mX d 51 0 [.int x0, .int x1, .int x2] [] w = mX d 51 166 [mJ, .int x1, .int x2] [] w := by
  refine Eq.trans (X_st f_51_0 rfl rfl) ?_
  refine Eq.trans (X_sw f_51_1 rfl (congrArg Value.int h0) rfl) ?_
  exact mX_mask rfl
theorem s_51_0_62 {d : Nat} {x0 : Int32} {x1 : Int32} {x2 : Int32} {w : MW} (h0 : x0 = (nI 62)) : mX d 51 0 [.int x0, .int x1, .int x2] [] w = mX d 51 155 [mJ, .int x1, .int x2] [] w := by
  refine Eq.trans (X_st f_51_0 rfl rfl) ?_
  refine Eq.trans (X_sw f_51_1 rfl (congrArg Value.int h0) rfl) ?_
  exact mX_mask rfl
theorem s_51_0_256 {d : Nat} {x0 : Int32} {x1 : Int32} {x2 : Int32} {w : MW} (h0 : x0 = (nI 256)) : mX d 51 0 [.int x0, .int x1, .int x2] [] w = mX d 51 177 [mJ, .int x1, .int x2] [] w := by
  refine Eq.trans (X_st f_51_0 rfl rfl) ?_
  refine Eq.trans (X_sw f_51_1 rfl (congrArg Value.int h0) rfl) ?_
  exact mX_mask rfl
theorem s_51_0_257 {d : Nat} {x0 : Int32} {x1 : Int32} {x2 : Int32} {w : MW} (h0 : x0 = (nI 257)) : mX d 51 0 [.int x0, .int x1, .int x2] [] w = mX d 51 188 [mJ, .int x1, .int x2] [] w := by
  refine Eq.trans (X_st f_51_0 rfl rfl) ?_
  refine Eq.trans (X_sw f_51_1 rfl (congrArg Value.int h0) rfl) ?_
  exact mX_mask rfl
theorem s_51_0_d {d : Nat} {x0 : Int32} {x1 : Int32} {x2 : Int32} {w : MW} (h0 : ¬ (27 : Int) = (x0).toInt ∧ ¬ (29 : Int) = (x0).toInt ∧ ¬ (30 : Int) = (x0).toInt ∧ ¬ (42 : Int) = (x0).toInt ∧ ¬ (43 : Int) = (x0).toInt ∧ ¬ (45 : Int) = (x0).toInt ∧ ¬ (47 : Int) = (x0).toInt ∧ ¬ (60 : Int) = (x0).toInt ∧ ¬ (61 : Int) = (x0).toInt ∧ ¬ (62 : Int) = (x0).toInt ∧ ¬ (256 : Int) = (x0).toInt ∧ ¬ (257 : Int) = (x0).toInt) : mX d 51 0 [.int x0, .int x1, .int x2] [] w = mX d 51 203 [mJ, .int x1, .int x2] [] w := by
  refine Eq.trans (X_st f_51_0 rfl rfl) ?_
  refine Eq.trans (X_st f_51_1 rfl (by simp only [mstep, mLook, List.drop, List.getD_eq_getElem?_getD, h0.1, h0.2.1, h0.2.2.1, h0.2.2.2.1, h0.2.2.2.2.1, h0.2.2.2.2.2.1, h0.2.2.2.2.2.2.1, h0.2.2.2.2.2.2.2.1, h0.2.2.2.2.2.2.2.2.1, h0.2.2.2.2.2.2.2.2.2.1, h0.2.2.2.2.2.2.2.2.2.2.1, h0.2.2.2.2.2.2.2.2.2.2.2, if_false]; rfl)) ?_
  exact mX_mask rfl
theorem e_51 {d : Nat} {x0 : Int32} {x1 : Int32} {x2 : Int32} {w : MW} : mK d 51 [.int x0, .int x1, .int x2] w = mX d 51 0 [.int x0, .int x1, .int x2] [] w := rfl
theorem b_51_108 {d : Nat} {x1 : Int32} {x2 : Int32} {w : MW} : mX d 51 108 [mJ, .int x1, .int x2] [] w = some (.inl (some (.int (x1 + x2))), w) := by
  refine Eq.trans (X_st f_51_108 rfl rfl) ?_
  refine Eq.trans (X_st f_51_109 rfl rfl) ?_
  refine Eq.trans (X_st f_51_110 rfl rfl) ?_
  exact X_ireturn f_51_111 rfl
theorem b_51_112 {d : Nat} {x1 : Int32} {x2 : Int32} {w : MW} : mX d 51 112 [mJ, .int x1, .int x2] [] w = some (.inl (some (.int (x1 - x2))), w) := by
  refine Eq.trans (X_st f_51_112 rfl rfl) ?_
  refine Eq.trans (X_st f_51_113 rfl rfl) ?_
  refine Eq.trans (X_st f_51_114 rfl rfl) ?_
  exact X_ireturn f_51_115 rfl
theorem b_51_116 {d : Nat} {x1 : Int32} {x2 : Int32} {w : MW} : mX d 51 116 [mJ, .int x1, .int x2] [] w = some (.inl (some (.int (x1 * x2))), w) := by
  refine Eq.trans (X_st f_51_116 rfl rfl) ?_
  refine Eq.trans (X_st f_51_117 rfl rfl) ?_
  refine Eq.trans (X_st f_51_118 rfl rfl) ?_
  exact X_ireturn f_51_119 rfl
theorem b_51_120 {d : Nat} {x1 : Int32} {x2 : Int32} {w : MW} : mX d 51 120 [mJ, .int x1, .int x2] [] w = (if ¬ x2 = nI 0 then mX d 51 128 [mJ, .int x1, .int x2] [] w else mX d 51 124 [mJ, mJ, mJ] [] w) := by
  refine Eq.trans (X_st f_51_120 rfl rfl) ?_
  refine Eq.trans (X_br f_51_121 rfl rfl) ?_
  exact mIte_eq (mX_mask rfl) (mX_mask rfl)
theorem b_51_124 {d : Nat} {w : MW} : mX d 51 124 [mJ, mJ, mJ] [] w = mX d 51 131 [mJ, mJ, mJ] [.int (nI 0)] w := by
  refine Eq.trans (X_iconst f_51_124 kc_i_0) ?_
  refine Eq.trans (X_st f_51_125 rfl rfl) ?_
  exact mX_mask rfl
theorem b_51_128 {d : Nat} {x1 : Int32} {x2 : Int32} {w : MW} (h0 : ¬ x2 = nI 0) : mX d 51 128 [mJ, .int x1, .int x2] [] w = mX d 51 131 [mJ, mJ, mJ] [.int (x1 / x2)] w := by
  refine Eq.trans (X_st f_51_128 rfl rfl) ?_
  refine Eq.trans (X_st f_51_129 rfl rfl) ?_
  refine Eq.trans (X_idiv f_51_130 h0) ?_
  exact mX_mask rfl
theorem b_51_131 {d : Nat} {y0 : Int32} {w : MW} : mX d 51 131 [mJ, mJ, mJ] [.int y0] w = some (.inl (some (.int y0)), w) := by
  exact X_ireturn f_51_131 rfl
theorem b_51_132 {d : Nat} {x1 : Int32} {x2 : Int32} {w : MW} : mX (d + 1) 51 132 [mJ, .int x1, .int x2] [] w = mThen (mK d 183 [.int x1, .int x2] w) (fun v w9 => mX (d + 1) 51 137 [mJ, mJ, mJ] (v.toList ++ []) w9) := by
  refine Eq.trans (X_st f_51_132 rfl rfl) ?_
  refine Eq.trans (X_st f_51_133 rfl rfl) ?_
  refine Eq.trans (X_call f_51_134 (by decide) rfl rfl rfl rfl rfl rfl (Nat.le_of_ble_eq_true rfl) (Nat.le_of_ble_eq_true rfl) rfl (Nat.le_of_ble_eq_true rfl)) ?_
  exact mThen_eq fun v w9 => mX_mask rfl
theorem b_51_137 {d : Nat} {y0 : Int32} {w : MW} : mX d 51 137 [mJ, mJ, mJ] [.int y0] w = some (.inl (some (.int y0)), w) := by
  exact X_ireturn f_51_137 rfl
theorem b_51_138 {d : Nat} {x1 : Int32} {x2 : Int32} {w : MW} : mX (d + 1) 51 138 [mJ, .int x1, .int x2] [] w = mThen (mK d 182 [.int x1, .int x2] w) (fun v w9 => mX (d + 1) 51 143 [mJ, mJ, mJ] (v.toList ++ []) w9) := by
  refine Eq.trans (X_st f_51_138 rfl rfl) ?_
  refine Eq.trans (X_st f_51_139 rfl rfl) ?_
  refine Eq.trans (X_call f_51_140 (by decide) rfl rfl rfl rfl rfl rfl (Nat.le_of_ble_eq_true rfl) (Nat.le_of_ble_eq_true rfl) rfl (Nat.le_of_ble_eq_true rfl)) ?_
  exact mThen_eq fun v w9 => mX_mask rfl
theorem b_51_143 {d : Nat} {y0 : Int32} {w : MW} : mX d 51 143 [mJ, mJ, mJ] [.int y0] w = some (.inl (some (.int y0)), w) := by
  exact X_ireturn f_51_143 rfl
theorem b_51_144 {d : Nat} {x1 : Int32} {x2 : Int32} {w : MW} : mX d 51 144 [mJ, .int x1, .int x2] [] w = (if x2 ≤ x1 then mX d 51 153 [mJ, mJ, mJ] [] w else mX d 51 149 [mJ, mJ, mJ] [] w) := by
  refine Eq.trans (X_st f_51_144 rfl rfl) ?_
  refine Eq.trans (X_st f_51_145 rfl rfl) ?_
  refine Eq.trans (X_br f_51_146 rfl rfl) ?_
  exact mIte_eq (mX_mask rfl) (mX_mask rfl)
theorem b_51_149 {d : Nat} {w : MW} : mX d 51 149 [mJ, mJ, mJ] [] w = mX d 51 154 [mJ, mJ, mJ] [.int (nI 1)] w := by
  refine Eq.trans (X_iconst f_51_149 kc_i_1) ?_
  refine Eq.trans (X_st f_51_150 rfl rfl) ?_
  exact mX_mask rfl
theorem b_51_153 {d : Nat} {w : MW} : mX d 51 153 [mJ, mJ, mJ] [] w = mX d 51 154 [mJ, mJ, mJ] [.int (nI 0)] w := by
  refine Eq.trans (X_iconst f_51_153 kc_i_0) ?_
  exact mX_mask rfl
theorem b_51_154 {d : Nat} {y0 : Int32} {w : MW} : mX d 51 154 [mJ, mJ, mJ] [.int y0] w = some (.inl (some (.int y0)), w) := by
  exact X_ireturn f_51_154 rfl
theorem b_51_155 {d : Nat} {x1 : Int32} {x2 : Int32} {w : MW} : mX d 51 155 [mJ, .int x1, .int x2] [] w = (if x1 ≤ x2 then mX d 51 164 [mJ, mJ, mJ] [] w else mX d 51 160 [mJ, mJ, mJ] [] w) := by
  refine Eq.trans (X_st f_51_155 rfl rfl) ?_
  refine Eq.trans (X_st f_51_156 rfl rfl) ?_
  refine Eq.trans (X_br f_51_157 rfl rfl) ?_
  exact mIte_eq (mX_mask rfl) (mX_mask rfl)
theorem b_51_160 {d : Nat} {w : MW} : mX d 51 160 [mJ, mJ, mJ] [] w = mX d 51 165 [mJ, mJ, mJ] [.int (nI 1)] w := by
  refine Eq.trans (X_iconst f_51_160 kc_i_1) ?_
  refine Eq.trans (X_st f_51_161 rfl rfl) ?_
  exact mX_mask rfl
theorem b_51_164 {d : Nat} {w : MW} : mX d 51 164 [mJ, mJ, mJ] [] w = mX d 51 165 [mJ, mJ, mJ] [.int (nI 0)] w := by
  refine Eq.trans (X_iconst f_51_164 kc_i_0) ?_
  exact mX_mask rfl
theorem b_51_165 {d : Nat} {y0 : Int32} {w : MW} : mX d 51 165 [mJ, mJ, mJ] [.int y0] w = some (.inl (some (.int y0)), w) := by
  exact X_ireturn f_51_165 rfl
theorem b_51_166 {d : Nat} {x1 : Int32} {x2 : Int32} {w : MW} : mX d 51 166 [mJ, .int x1, .int x2] [] w = (if ¬ x1 = x2 then mX d 51 175 [mJ, mJ, mJ] [] w else mX d 51 171 [mJ, mJ, mJ] [] w) := by
  refine Eq.trans (X_st f_51_166 rfl rfl) ?_
  refine Eq.trans (X_st f_51_167 rfl rfl) ?_
  refine Eq.trans (X_br f_51_168 rfl rfl) ?_
  exact mIte_eq (mX_mask rfl) (mX_mask rfl)
theorem b_51_171 {d : Nat} {w : MW} : mX d 51 171 [mJ, mJ, mJ] [] w = mX d 51 176 [mJ, mJ, mJ] [.int (nI 1)] w := by
  refine Eq.trans (X_iconst f_51_171 kc_i_1) ?_
  refine Eq.trans (X_st f_51_172 rfl rfl) ?_
  exact mX_mask rfl
theorem b_51_175 {d : Nat} {w : MW} : mX d 51 175 [mJ, mJ, mJ] [] w = mX d 51 176 [mJ, mJ, mJ] [.int (nI 0)] w := by
  refine Eq.trans (X_iconst f_51_175 kc_i_0) ?_
  exact mX_mask rfl
theorem b_51_176 {d : Nat} {y0 : Int32} {w : MW} : mX d 51 176 [mJ, mJ, mJ] [.int y0] w = some (.inl (some (.int y0)), w) := by
  exact X_ireturn f_51_176 rfl
theorem b_51_177 {d : Nat} {x1 : Int32} {x2 : Int32} {w : MW} : mX d 51 177 [mJ, .int x1, .int x2] [] w = (if x2 < x1 then mX d 51 186 [mJ, mJ, mJ] [] w else mX d 51 182 [mJ, mJ, mJ] [] w) := by
  refine Eq.trans (X_st f_51_177 rfl rfl) ?_
  refine Eq.trans (X_st f_51_178 rfl rfl) ?_
  refine Eq.trans (X_br f_51_179 rfl rfl) ?_
  exact mIte_eq (mX_mask rfl) (mX_mask rfl)
theorem b_51_182 {d : Nat} {w : MW} : mX d 51 182 [mJ, mJ, mJ] [] w = mX d 51 187 [mJ, mJ, mJ] [.int (nI 1)] w := by
  refine Eq.trans (X_iconst f_51_182 kc_i_1) ?_
  refine Eq.trans (X_st f_51_183 rfl rfl) ?_
  exact mX_mask rfl
theorem b_51_186 {d : Nat} {w : MW} : mX d 51 186 [mJ, mJ, mJ] [] w = mX d 51 187 [mJ, mJ, mJ] [.int (nI 0)] w := by
  refine Eq.trans (X_iconst f_51_186 kc_i_0) ?_
  exact mX_mask rfl
theorem b_51_187 {d : Nat} {y0 : Int32} {w : MW} : mX d 51 187 [mJ, mJ, mJ] [.int y0] w = some (.inl (some (.int y0)), w) := by
  exact X_ireturn f_51_187 rfl
theorem b_51_188 {d : Nat} {x1 : Int32} {x2 : Int32} {w : MW} : mX d 51 188 [mJ, .int x1, .int x2] [] w = (if x1 < x2 then mX d 51 197 [mJ, mJ, mJ] [] w else mX d 51 193 [mJ, mJ, mJ] [] w) := by
  refine Eq.trans (X_st f_51_188 rfl rfl) ?_
  refine Eq.trans (X_st f_51_189 rfl rfl) ?_
  refine Eq.trans (X_br f_51_190 rfl rfl) ?_
  exact mIte_eq (mX_mask rfl) (mX_mask rfl)
theorem b_51_193 {d : Nat} {w : MW} : mX d 51 193 [mJ, mJ, mJ] [] w = mX d 51 198 [mJ, mJ, mJ] [.int (nI 1)] w := by
  refine Eq.trans (X_iconst f_51_193 kc_i_1) ?_
  refine Eq.trans (X_st f_51_194 rfl rfl) ?_
  exact mX_mask rfl
theorem b_51_197 {d : Nat} {w : MW} : mX d 51 197 [mJ, mJ, mJ] [] w = mX d 51 198 [mJ, mJ, mJ] [.int (nI 0)] w := by
  refine Eq.trans (X_iconst f_51_197 kc_i_0) ?_
  exact mX_mask rfl
theorem b_51_198 {d : Nat} {y0 : Int32} {w : MW} : mX d 51 198 [mJ, mJ, mJ] [.int y0] w = some (.inl (some (.int y0)), w) := by
  exact X_ireturn f_51_198 rfl
theorem b_51_199 {d : Nat} {x1 : Int32} {x2 : Int32} {w : MW} : mX d 51 199 [mJ, .int x1, .int x2] [] w = some (.inl (some (.int (x1 &&& x2))), w) := by
  refine Eq.trans (X_st f_51_199 rfl rfl) ?_
  refine Eq.trans (X_st f_51_200 rfl rfl) ?_
  refine Eq.trans (X_st f_51_201 rfl rfl) ?_
  exact X_ireturn f_51_202 rfl
theorem b_51_203 {d : Nat} {x1 : Int32} {x2 : Int32} {w : MW} : mX d 51 203 [mJ, .int x1, .int x2] [] w = some (.inl (some (.int (x1 ||| x2))), w) := by
  refine Eq.trans (X_st f_51_203 rfl rfl) ?_
  refine Eq.trans (X_st f_51_204 rfl rfl) ?_
  refine Eq.trans (X_st f_51_205 rfl rfl) ?_
  exact X_ireturn f_51_206 rfl
/-! BeeTurnpike$Speller <init> ()V -/
theorem f_52_0 : mFetch 52 0 = some (.aload_n 0, 1, []) := by decide +kernel
theorem f_52_1 : mFetch 52 1 = some (.invokespecial 3, 3, [1002, 334]) := by decide +kernel
theorem f_52_4 : mFetch 52 4 = some (.aload_n 0, 1, []) := by decide +kernel
theorem f_52_5 : mFetch 52 5 = some (.iconst 5, 1, []) := by decide +kernel
theorem f_52_6 : mFetch 52 6 = some (.newarray .int, 2, [50]) := by decide +kernel
theorem f_52_8 : mFetch 52 8 = some (.putfield 9, 3, [4, 0, 0, 335]) := by decide +kernel
theorem f_52_11 : mFetch 52 11 = some (.aload_n 0, 1, []) := by decide +kernel
theorem f_52_12 : mFetch 52 12 = some (.bipush 10, 2, []) := by decide +kernel
theorem f_52_14 : mFetch 52 14 = some (.newarray .int, 2, [50]) := by decide +kernel
theorem f_52_16 : mFetch 52 16 = some (.putfield 15, 3, [4, 1, 0, 338]) := by decide +kernel
theorem f_52_19 : mFetch 52 19 = some (.return_, 1, []) := by decide +kernel
theorem b_52_0 {d : Nat} {a0 : Nat} {w : MW} (h0 : mE ≤ a0) (h1 : mTg (wN w 50 5 5) a0 = 4) (h2 : mTg (wN (wR (wN w 50 5 5) a0 0 (some (mSz w))) 50 10 10) a0 = 4) : mX d 52 0 [.ref a0] [] w = some (.inl none, wR (wN (wR (wN w 50 5 5) a0 0 (some (mSz w))) 50 10 10) a0 1 (some (mSz (wR (wN w 50 5 5) a0 0 (some (mSz w)))))) := by
  refine Eq.trans (X_st f_52_0 rfl rfl) ?_
  refine Eq.trans (X_st f_52_1 rfl (if_pos ⟨h0, Nat.le_of_ble_eq_true rfl⟩)) ?_
  refine Eq.trans (X_st f_52_4 rfl rfl) ?_
  refine Eq.trans (X_iconst f_52_5 kc_i_5) ?_
  refine Eq.trans (X_newa f_52_6 kn_5 kl_5 (Nat.le_of_ble_eq_true rfl)) ?_
  refine Eq.trans (X_putR f_52_8 h1 h0 rfl) ?_
  refine Eq.trans (X_st f_52_11 rfl rfl) ?_
  refine Eq.trans (X_bipush f_52_12 kc_b_10) ?_
  refine Eq.trans (X_newa f_52_14 kn_10 kl_10 (Nat.le_of_ble_eq_true rfl)) ?_
  refine Eq.trans (X_putR f_52_16 h2 h0 rfl) ?_
  exact X_ret f_52_19 rfl rfl
theorem e_52 {d : Nat} {a0 : Nat} {w : MW} : mK d 52 [.ref a0] w = mX d 52 0 [.ref a0] [] w := rfl
/-! BeeTurnpike$Speller begin (LBeeTurnpike$Told;I)V -/
theorem f_53_0 : mFetch 53 0 = some (.aload_n 0, 1, []) := by decide +kernel
theorem f_53_1 : mFetch 53 1 = some (.aload_n 1, 1, []) := by decide +kernel
theorem f_53_2 : mFetch 53 2 = some (.iconst 3, 1, []) := by decide +kernel
theorem f_53_3 : mFetch 53 3 = some (.iload_n 2, 1, []) := by decide +kernel
theorem f_53_4 : mFetch 53 4 = some (.invokevirtual 18, 3, [86, 3, 2, 8, 1314, 584, 585]) := by decide +kernel
theorem f_53_7 : mFetch 53 7 = some (.putfield 24, 3, [4, 2, 0, 341]) := by decide +kernel
theorem f_53_10 : mFetch 53 10 = some (.aload_n 0, 1, []) := by decide +kernel
theorem f_53_11 : mFetch 53 11 = some (.iconst 0, 1, []) := by decide +kernel
theorem f_53_12 : mFetch 53 12 = some (.putfield 28, 3, [4, 3, 0, 345]) := by decide +kernel
theorem f_53_15 : mFetch 53 15 = some (.aload_n 0, 1, []) := by decide +kernel
theorem f_53_16 : mFetch 53 16 = some (.iconst 1, 1, []) := by decide +kernel
theorem f_53_17 : mFetch 53 17 = some (.putfield 31, 3, [4, 4, 0, 347]) := by decide +kernel
theorem f_53_20 : mFetch 53 20 = some (.aload_n 0, 1, []) := by decide +kernel
theorem f_53_21 : mFetch 53 21 = some (.iconst 0, 1, []) := by decide +kernel
theorem f_53_22 : mFetch 53 22 = some (.putfield 34, 3, [4, 5, 0, 350]) := by decide +kernel
theorem f_53_25 : mFetch 53 25 = some (.aload_n 0, 1, []) := by decide +kernel
theorem f_53_26 : mFetch 53 26 = some (.iconst 0, 1, []) := by decide +kernel
theorem f_53_27 : mFetch 53 27 = some (.putfield 38, 3, [4, 6, 0, 354]) := by decide +kernel
theorem f_53_30 : mFetch 53 30 = some (.aload_n 0, 1, []) := by decide +kernel
theorem f_53_31 : mFetch 53 31 = some (.aload_n 1, 1, []) := by decide +kernel
theorem f_53_32 : mFetch 53 32 = some (.getfield 41, 3, [8, 8, 1, 59]) := by decide +kernel
theorem f_53_35 : mFetch 53 35 = some (.iload_n 2, 1, []) := by decide +kernel
theorem f_53_36 : mFetch 53 36 = some (.invokestatic 44, 3, [123, 2, 1, 0, 60, 559]) := by decide +kernel
theorem f_53_39 : mFetch 53 39 = some (.putfield 48, 3, [4, 7, 0, 358]) := by decide +kernel
theorem f_53_42 : mFetch 53 42 = some (.aload_n 0, 1, []) := by decide +kernel
theorem f_53_43 : mFetch 53 43 = some (.iconst 0, 1, []) := by decide +kernel
theorem f_53_44 : mFetch 53 44 = some (.putfield 50, 3, [4, 8, 0, 362]) := by decide +kernel
theorem f_53_47 : mFetch 53 47 = some (.aload_n 0, 1, []) := by decide +kernel
theorem f_53_48 : mFetch 53 48 = some (.iconst 0, 1, []) := by decide +kernel
theorem f_53_49 : mFetch 53 49 = some (.putfield 53, 3, [4, 9, 0, 365]) := by decide +kernel
theorem f_53_52 : mFetch 53 52 = some (.aload_n 0, 1, []) := by decide +kernel
theorem f_53_53 : mFetch 53 53 = some (.iconst 0, 1, []) := by decide +kernel
theorem f_53_54 : mFetch 53 54 = some (.putfield 56, 3, [4, 10, 0, 368]) := by decide +kernel
theorem f_53_57 : mFetch 53 57 = some (.aload_n 0, 1, []) := by decide +kernel
theorem f_53_58 : mFetch 53 58 = some (.getfield 15, 3, [4, 1, 0, 338]) := by decide +kernel
theorem f_53_61 : mFetch 53 61 = some (.iconst 0, 1, []) := by decide +kernel
theorem f_53_62 : mFetch 53 62 = some (.invokestatic 59, 3, [188, 2, 0, 0, 1316, 1239]) := by decide +kernel
theorem f_53_65 : mFetch 53 65 = some (.iconst 0, 1, []) := by decide +kernel
theorem f_53_66 : mFetch 53 66 = some (.istore_n 3, 1, []) := by decide +kernel
theorem f_53_67 : mFetch 53 67 = some (.iload_n 3, 1, []) := by decide +kernel
theorem f_53_68 : mFetch 53 68 = some (.iconst 5, 1, []) := by decide +kernel
theorem f_53_69 : mFetch 53 69 = some (.if_icmp .ge 29, 3, [98]) := by decide +kernel
theorem f_53_72 : mFetch 53 72 = some (.aload_n 0, 1, []) := by decide +kernel
theorem f_53_73 : mFetch 53 73 = some (.getfield 9, 3, [4, 0, 0, 335]) := by decide +kernel
theorem f_53_76 : mFetch 53 76 = some (.iload_n 3, 1, []) := by decide +kernel
theorem f_53_77 : mFetch 53 77 = some (.aload_n 1, 1, []) := by decide +kernel
theorem f_53_78 : mFetch 53 78 = some (.getfield 65, 3, [8, 9, 1, 61]) := by decide +kernel
theorem f_53_81 : mFetch 53 81 = some (.iload_n 2, 1, []) := by decide +kernel
theorem f_53_82 : mFetch 53 82 = some (.iconst 5, 1, []) := by decide +kernel
theorem f_53_83 : mFetch 53 83 = some (.imul, 1, []) := by decide +kernel
theorem f_53_84 : mFetch 53 84 = some (.iload_n 3, 1, []) := by decide +kernel
theorem f_53_85 : mFetch 53 85 = some (.iadd, 1, []) := by decide +kernel
theorem f_53_86 : mFetch 53 86 = some (.invokestatic 44, 3, [123, 2, 1, 0, 60, 559]) := by decide +kernel
theorem f_53_89 : mFetch 53 89 = some (.invokestatic 66, 3, [124, 3, 1, 0, 62, 689]) := by decide +kernel
theorem f_53_92 : mFetch 53 92 = some (.iinc 3 1, 3, []) := by decide +kernel
theorem f_53_95 : mFetch 53 95 = some (.goto (-28), 3, [67]) := by decide +kernel
theorem f_53_98 : mFetch 53 98 = some (.return_, 1, []) := by decide +kernel
theorem b_53_0 {d : Nat} {a0 : Nat} {a1 : Nat} {x2 : Int32} {w : MW} (h0 : mTg w a1 = 8) : mX (d + 1) 53 0 [.ref a0, .ref a1, .int x2, mJ] [] w = mThen (mK d 86 [.ref a1, .int (nI 3), .int x2] w) (fun v w9 => mX (d + 1) 53 7 [.ref a0, .ref a1, .int x2, mJ] (v.toList ++ [.ref a0]) w9) := by
  refine Eq.trans (X_st f_53_0 rfl rfl) ?_
  refine Eq.trans (X_st f_53_1 rfl rfl) ?_
  refine Eq.trans (X_iconst f_53_2 kc_i_3) ?_
  refine Eq.trans (X_st f_53_3 rfl rfl) ?_
  refine Eq.trans (X_call f_53_4 (by decide) rfl rfl rfl rfl rfl rfl (Nat.le_of_ble_eq_true rfl) (Nat.le_of_ble_eq_true rfl) (decide_eq_true h0) (Nat.le_of_ble_eq_true rfl)) ?_
  exact mThen_eq fun v w9 => mX_mask rfl
theorem e_53 {d : Nat} {a0 : Nat} {a1 : Nat} {x2 : Int32} {w : MW} : mK d 53 [.ref a0, .ref a1, .int x2] w = mX d 53 0 [.ref a0, .ref a1, .int x2, mJ] [] w := rfl
theorem b_53_7 {d : Nat} {a0 : Nat} {a1 : Nat} {x2 : Int32} {y0 : Int32} {b1 : Nat} {w : MW} (h0 : mTg w b1 = 4) (h1 : mE ≤ b1) (h2 : mNar (mTy 4 2) y0 = true) (h3 : mTg (wI w b1 2 y0) a0 = 4) (h4 : mE ≤ a0) (h5 : mTg (wI (wI w b1 2 y0) a0 3 (nI 0)) a0 = 4) (h6 : mTg (wI (wI (wI w b1 2 y0) a0 3 (nI 0)) a0 4 (nI 1)) a0 = 4) (h7 : mTg (wI (wI (wI (wI w b1 2 y0) a0 3 (nI 0)) a0 4 (nI 1)) a0 5 (nI 0)) a0 = 4) (h8 : mTg (wI (wI (wI (wI (wI w b1 2 y0) a0 3 (nI 0)) a0 4 (nI 1)) a0 5 (nI 0)) a0 6 (nI 0)) a1 = 8) (h9 : mR (wI (wI (wI (wI (wI w b1 2 y0) a0 3 (nI 0)) a0 4 (nI 1)) a0 5 (nI 0)) a0 6 (nI 0)) a1 8 = some (gR (wI (wI (wI (wI (wI w b1 2 y0) a0 3 (nI 0)) a0 4 (nI 1)) a0 5 (nI 0)) a0 6 (nI 0)) a1 8)) : mX (d + 1) 53 7 [.ref a0, .ref a1, .int x2, mJ] [.int y0, .ref b1] w = mThen (mK d 123 [.ref (gR (wI (wI (wI (wI (wI w b1 2 y0) a0 3 (nI 0)) a0 4 (nI 1)) a0 5 (nI 0)) a0 6 (nI 0)) a1 8), .int x2] (wI (wI (wI (wI (wI w b1 2 y0) a0 3 (nI 0)) a0 4 (nI 1)) a0 5 (nI 0)) a0 6 (nI 0))) (fun v w9 => mX (d + 1) 53 39 [.ref a0, .ref a1, .int x2, mJ] (v.toList ++ [.ref a0]) w9) := by
  refine Eq.trans (X_putI f_53_7 h0 h1 rfl h2) ?_
  refine Eq.trans (X_st f_53_10 rfl rfl) ?_
  refine Eq.trans (X_iconst f_53_11 kc_i_0) ?_
  refine Eq.trans (X_putI f_53_12 h3 h4 rfl rfl) ?_
  refine Eq.trans (X_st f_53_15 rfl rfl) ?_
  refine Eq.trans (X_iconst f_53_16 kc_i_1) ?_
  refine Eq.trans (X_putI f_53_17 h5 h4 rfl rfl) ?_
  refine Eq.trans (X_st f_53_20 rfl rfl) ?_
  refine Eq.trans (X_iconst f_53_21 kc_i_0) ?_
  refine Eq.trans (X_putI f_53_22 h6 h4 rfl rfl) ?_
  refine Eq.trans (X_st f_53_25 rfl rfl) ?_
  refine Eq.trans (X_iconst f_53_26 kc_i_0) ?_
  refine Eq.trans (X_putI f_53_27 h7 h4 rfl rfl) ?_
  refine Eq.trans (X_st f_53_30 rfl rfl) ?_
  refine Eq.trans (X_st f_53_31 rfl rfl) ?_
  refine Eq.trans (X_getR f_53_32 h8 rfl h9) ?_
  refine Eq.trans (X_st f_53_35 rfl rfl) ?_
  refine Eq.trans (X_call f_53_36 (by decide) rfl rfl rfl rfl rfl rfl (Nat.le_of_ble_eq_true rfl) (Nat.le_of_ble_eq_true rfl) rfl (Nat.le_of_ble_eq_true rfl)) ?_
  exact mThen_eq fun v w9 => mX_mask rfl
theorem b_53_39 {d : Nat} {a0 : Nat} {a1 : Nat} {x2 : Int32} {y0 : Int32} {b1 : Nat} {w : MW} (h0 : mTg w b1 = 4) (h1 : mE ≤ b1) (h2 : mTg (wI w b1 7 y0) a0 = 4) (h3 : mE ≤ a0) (h4 : mTg (wI (wI w b1 7 y0) a0 8 (nI 0)) a0 = 4) (h5 : mTg (wI (wI (wI w b1 7 y0) a0 8 (nI 0)) a0 9 (nI 0)) a0 = 4) (h6 : mTg (wI (wI (wI (wI w b1 7 y0) a0 8 (nI 0)) a0 9 (nI 0)) a0 10 (nI 0)) a0 = 4) (h7 : mR (wI (wI (wI (wI w b1 7 y0) a0 8 (nI 0)) a0 9 (nI 0)) a0 10 (nI 0)) a0 1 = some (gR (wI (wI (wI (wI w b1 7 y0) a0 8 (nI 0)) a0 9 (nI 0)) a0 10 (nI 0)) a0 1)) : mX (d + 1) 53 39 [.ref a0, .ref a1, .int x2, mJ] [.int y0, .ref b1] w = mThen (mK d 188 [.ref (gR (wI (wI (wI (wI w b1 7 y0) a0 8 (nI 0)) a0 9 (nI 0)) a0 10 (nI 0)) a0 1), .int (nI 0)] (wI (wI (wI (wI w b1 7 y0) a0 8 (nI 0)) a0 9 (nI 0)) a0 10 (nI 0))) (fun v w9 => mX (d + 1) 53 65 [.ref a0, .ref a1, .int x2, mJ] (v.toList ++ []) w9) := by
  refine Eq.trans (X_putI f_53_39 h0 h1 rfl rfl) ?_
  refine Eq.trans (X_st f_53_42 rfl rfl) ?_
  refine Eq.trans (X_iconst f_53_43 kc_i_0) ?_
  refine Eq.trans (X_putI f_53_44 h2 h3 rfl rfl) ?_
  refine Eq.trans (X_st f_53_47 rfl rfl) ?_
  refine Eq.trans (X_iconst f_53_48 kc_i_0) ?_
  refine Eq.trans (X_putI f_53_49 h4 h3 rfl rfl) ?_
  refine Eq.trans (X_st f_53_52 rfl rfl) ?_
  refine Eq.trans (X_iconst f_53_53 kc_i_0) ?_
  refine Eq.trans (X_putI f_53_54 h5 h3 rfl rfl) ?_
  refine Eq.trans (X_st f_53_57 rfl rfl) ?_
  refine Eq.trans (X_getR f_53_58 h6 rfl h7) ?_
  refine Eq.trans (X_iconst f_53_61 kc_i_0) ?_
  refine Eq.trans (X_call f_53_62 (by decide) rfl rfl rfl rfl rfl rfl (Nat.le_of_ble_eq_true rfl) (Nat.le_of_ble_eq_true rfl) rfl (Nat.le_of_ble_eq_true rfl)) ?_
  exact mThen_eq fun v w9 => mX_mask rfl
theorem b_53_65 {d : Nat} {a0 : Nat} {a1 : Nat} {x2 : Int32} {w : MW} : mX d 53 65 [.ref a0, .ref a1, .int x2, mJ] [] w = mX d 53 67 [.ref a0, .ref a1, .int x2, .int (nI 0)] [] w := by
  refine Eq.trans (X_iconst f_53_65 kc_i_0) ?_
  refine Eq.trans (X_istore_n (L' := [.ref a0, .ref a1, .int x2, .int (nI 0)]) f_53_66 (Nat.le_of_ble_eq_true rfl) rfl) ?_
  exact mX_mask rfl
theorem b_53_67 {d : Nat} {a0 : Nat} {a1 : Nat} {x2 : Int32} {x3 : Int32} {w : MW} : mX d 53 67 [.ref a0, .ref a1, .int x2, .int x3] [] w = (if (nI 5) ≤ x3 then mX d 53 98 [mJ, mJ, mJ, mJ] [] w else mX d 53 72 [.ref a0, .ref a1, .int x2, .int x3] [] w) := by
  refine Eq.trans (X_st f_53_67 rfl rfl) ?_
  refine Eq.trans (X_iconst f_53_68 kc_i_5) ?_
  refine Eq.trans (X_br f_53_69 rfl rfl) ?_
  exact mIte_eq (mX_mask rfl) (mX_mask rfl)
theorem b_53_72 {d : Nat} {a0 : Nat} {a1 : Nat} {x2 : Int32} {x3 : Int32} {w : MW} (h0 : mTg w a0 = 4) (h1 : mR w a0 0 = some (gR w a0 0)) (h2 : mTg w a1 = 8) (h3 : mR w a1 9 = some (gR w a1 9)) : mX (d + 1) 53 72 [.ref a0, .ref a1, .int x2, .int x3] [] w = mThen (mK d 123 [.ref (gR w a1 9), .int ((x2 * (nI 5)) + x3)] w) (fun v w9 => mX (d + 1) 53 89 [.ref a0, .ref a1, .int x2, .int x3] (v.toList ++ [.int x3, .ref (gR w a0 0)]) w9) := by
  refine Eq.trans (X_st f_53_72 rfl rfl) ?_
  refine Eq.trans (X_getR f_53_73 h0 rfl h1) ?_
  refine Eq.trans (X_st f_53_76 rfl rfl) ?_
  refine Eq.trans (X_st f_53_77 rfl rfl) ?_
  refine Eq.trans (X_getR f_53_78 h2 rfl h3) ?_
  refine Eq.trans (X_st f_53_81 rfl rfl) ?_
  refine Eq.trans (X_iconst f_53_82 kc_i_5) ?_
  refine Eq.trans (X_st f_53_83 rfl rfl) ?_
  refine Eq.trans (X_st f_53_84 rfl rfl) ?_
  refine Eq.trans (X_st f_53_85 rfl rfl) ?_
  refine Eq.trans (X_call f_53_86 (by decide) rfl rfl rfl rfl rfl rfl (Nat.le_of_ble_eq_true rfl) (Nat.le_of_ble_eq_true rfl) rfl (Nat.le_of_ble_eq_true rfl)) ?_
  exact mThen_eq fun v w9 => mX_mask rfl
theorem b_53_89 {d : Nat} {a0 : Nat} {a1 : Nat} {x2 : Int32} {x3 : Int32} {y0 : Int32} {y1 : Int32} {b2 : Nat} {w : MW} : mX (d + 1) 53 89 [.ref a0, .ref a1, .int x2, .int x3] [.int y0, .int y1, .ref b2] w = mThen (mK d 124 [.ref b2, .int y1, .int y0] w) (fun v w9 => mX (d + 1) 53 92 [.ref a0, .ref a1, .int x2, .int x3] (v.toList ++ []) w9) := by
  refine Eq.trans (X_call f_53_89 (by decide) rfl rfl rfl rfl rfl rfl (Nat.le_of_ble_eq_true rfl) (Nat.le_of_ble_eq_true rfl) rfl (Nat.le_of_ble_eq_true rfl)) ?_
  exact mThen_eq fun v w9 => mX_mask rfl
theorem b_53_92 {d : Nat} {a0 : Nat} {a1 : Nat} {x2 : Int32} {x3 : Int32} {w : MW} : mX d 53 92 [.ref a0, .ref a1, .int x2, .int x3] [] w = mX d 53 67 [.ref a0, .ref a1, .int x2, .int (x3 + (nI 1))] [] w := by
  refine Eq.trans (X_iinc f_53_92 kc_i_1 rfl rfl) ?_
  refine Eq.trans (X_st f_53_95 rfl rfl) ?_
  exact mX_mask rfl
theorem b_53_98 {d : Nat} {w : MW} : mX d 53 98 [mJ, mJ, mJ, mJ] [] w = some (.inl none, w) := by
  exact X_ret f_53_98 rfl rfl
/-! BeeTurnpike$Speller copyFrom (LBeeTurnpike$Speller;)V -/
theorem f_54_0 : mFetch 54 0 = some (.aload_n 0, 1, []) := by decide +kernel
theorem f_54_1 : mFetch 54 1 = some (.aload_n 1, 1, []) := by decide +kernel
theorem f_54_2 : mFetch 54 2 = some (.getfield 24, 3, [4, 2, 0, 341]) := by decide +kernel
theorem f_54_5 : mFetch 54 5 = some (.putfield 24, 3, [4, 2, 0, 341]) := by decide +kernel
theorem f_54_8 : mFetch 54 8 = some (.aload_n 0, 1, []) := by decide +kernel
theorem f_54_9 : mFetch 54 9 = some (.aload_n 1, 1, []) := by decide +kernel
theorem f_54_10 : mFetch 54 10 = some (.getfield 28, 3, [4, 3, 0, 345]) := by decide +kernel
theorem f_54_13 : mFetch 54 13 = some (.putfield 28, 3, [4, 3, 0, 345]) := by decide +kernel
theorem f_54_16 : mFetch 54 16 = some (.aload_n 0, 1, []) := by decide +kernel
theorem f_54_17 : mFetch 54 17 = some (.aload_n 1, 1, []) := by decide +kernel
theorem f_54_18 : mFetch 54 18 = some (.getfield 31, 3, [4, 4, 0, 347]) := by decide +kernel
theorem f_54_21 : mFetch 54 21 = some (.putfield 31, 3, [4, 4, 0, 347]) := by decide +kernel
theorem f_54_24 : mFetch 54 24 = some (.aload_n 0, 1, []) := by decide +kernel
theorem f_54_25 : mFetch 54 25 = some (.aload_n 1, 1, []) := by decide +kernel
theorem f_54_26 : mFetch 54 26 = some (.getfield 34, 3, [4, 5, 0, 350]) := by decide +kernel
theorem f_54_29 : mFetch 54 29 = some (.putfield 34, 3, [4, 5, 0, 350]) := by decide +kernel
theorem f_54_32 : mFetch 54 32 = some (.aload_n 0, 1, []) := by decide +kernel
theorem f_54_33 : mFetch 54 33 = some (.aload_n 1, 1, []) := by decide +kernel
theorem f_54_34 : mFetch 54 34 = some (.getfield 38, 3, [4, 6, 0, 354]) := by decide +kernel
theorem f_54_37 : mFetch 54 37 = some (.putfield 38, 3, [4, 6, 0, 354]) := by decide +kernel
theorem f_54_40 : mFetch 54 40 = some (.aload_n 0, 1, []) := by decide +kernel
theorem f_54_41 : mFetch 54 41 = some (.aload_n 1, 1, []) := by decide +kernel
theorem f_54_42 : mFetch 54 42 = some (.getfield 48, 3, [4, 7, 0, 358]) := by decide +kernel
theorem f_54_45 : mFetch 54 45 = some (.putfield 48, 3, [4, 7, 0, 358]) := by decide +kernel
theorem f_54_48 : mFetch 54 48 = some (.aload_n 0, 1, []) := by decide +kernel
theorem f_54_49 : mFetch 54 49 = some (.aload_n 1, 1, []) := by decide +kernel
theorem f_54_50 : mFetch 54 50 = some (.getfield 50, 3, [4, 8, 0, 362]) := by decide +kernel
theorem f_54_53 : mFetch 54 53 = some (.putfield 50, 3, [4, 8, 0, 362]) := by decide +kernel
theorem f_54_56 : mFetch 54 56 = some (.aload_n 0, 1, []) := by decide +kernel
theorem f_54_57 : mFetch 54 57 = some (.aload_n 1, 1, []) := by decide +kernel
theorem f_54_58 : mFetch 54 58 = some (.getfield 53, 3, [4, 9, 0, 365]) := by decide +kernel
theorem f_54_61 : mFetch 54 61 = some (.putfield 53, 3, [4, 9, 0, 365]) := by decide +kernel
theorem f_54_64 : mFetch 54 64 = some (.aload_n 0, 1, []) := by decide +kernel
theorem f_54_65 : mFetch 54 65 = some (.aload_n 1, 1, []) := by decide +kernel
theorem f_54_66 : mFetch 54 66 = some (.getfield 56, 3, [4, 10, 0, 368]) := by decide +kernel
theorem f_54_69 : mFetch 54 69 = some (.putfield 56, 3, [4, 10, 0, 368]) := by decide +kernel
theorem f_54_72 : mFetch 54 72 = some (.aload_n 1, 1, []) := by decide +kernel
theorem f_54_73 : mFetch 54 73 = some (.getfield 9, 3, [4, 0, 0, 335]) := by decide +kernel
theorem f_54_76 : mFetch 54 76 = some (.aload_n 0, 1, []) := by decide +kernel
theorem f_54_77 : mFetch 54 77 = some (.getfield 9, 3, [4, 0, 0, 335]) := by decide +kernel
theorem f_54_80 : mFetch 54 80 = some (.invokestatic 70, 3, [125, 2, 1, 0, 63, 771]) := by decide +kernel
theorem f_54_83 : mFetch 54 83 = some (.aload_n 1, 1, []) := by decide +kernel
theorem f_54_84 : mFetch 54 84 = some (.getfield 15, 3, [4, 1, 0, 338]) := by decide +kernel
theorem f_54_87 : mFetch 54 87 = some (.aload_n 0, 1, []) := by decide +kernel
theorem f_54_88 : mFetch 54 88 = some (.getfield 15, 3, [4, 1, 0, 338]) := by decide +kernel
theorem f_54_91 : mFetch 54 91 = some (.invokestatic 70, 3, [125, 2, 1, 0, 63, 771]) := by decide +kernel
theorem f_54_94 : mFetch 54 94 = some (.return_, 1, []) := by decide +kernel
theorem b_54_0 {d : Nat} {a0 : Nat} {a1 : Nat} {w : MW} (h0 : mTg w a1 = 4) (h1 : mTg w a0 = 4) (h2 : mE ≤ a0) (h3 : mNar (mTy 4 2) (mI w a1 2) = true) (h4 : mTg (wI w a0 2 (mI w a1 2)) a1 = 4) (h5 : mTg (wI w a0 2 (mI w a1 2)) a0 = 4) (h6 : mNar (mTy 4 3) (mI (wI w a0 2 (mI w a1 2)) a1 3) = true) (h7 : mTg (wI (wI w a0 2 (mI w a1 2)) a0 3 (mI (wI w a0 2 (mI w a1 2)) a1 3)) a1 = 4) (h8 : mTg (wI (wI w a0 2 (mI w a1 2)) a0 3 (mI (wI w a0 2 (mI w a1 2)) a1 3)) a0 = 4) (h9 : mNar (mTy 4 4) (mI (wI (wI w a0 2 (mI w a1 2)) a0 3 (mI (wI w a0 2 (mI w a1 2)) a1 3)) a1 4) = true) : mX d 54 0 [.ref a0, .ref a1] [] w = mX d 54 24 [.ref a0, .ref a1] [] (wI (wI (wI w a0 2 (mI w a1 2)) a0 3 (mI (wI w a0 2 (mI w a1 2)) a1 3)) a0 4 (mI (wI (wI w a0 2 (mI w a1 2)) a0 3 (mI (wI w a0 2 (mI w a1 2)) a1 3)) a1 4)) := by
  refine Eq.trans (X_st f_54_0 rfl rfl) ?_
  refine Eq.trans (X_st f_54_1 rfl rfl) ?_
  refine Eq.trans (X_getI f_54_2 h0 rfl) ?_
  refine Eq.trans (X_putI f_54_5 h1 h2 rfl h3) ?_
  refine Eq.trans (X_st f_54_8 rfl rfl) ?_
  refine Eq.trans (X_st f_54_9 rfl rfl) ?_
  refine Eq.trans (X_getI f_54_10 h4 rfl) ?_
  refine Eq.trans (X_putI f_54_13 h5 h2 rfl h6) ?_
  refine Eq.trans (X_st f_54_16 rfl rfl) ?_
  refine Eq.trans (X_st f_54_17 rfl rfl) ?_
  refine Eq.trans (X_getI f_54_18 h7 rfl) ?_
  refine Eq.trans (X_putI f_54_21 h8 h2 rfl h9) ?_
  exact mX_mask rfl
theorem e_54 {d : Nat} {a0 : Nat} {a1 : Nat} {w : MW} : mK d 54 [.ref a0, .ref a1] w = mX d 54 0 [.ref a0, .ref a1] [] w := rfl
theorem b_54_24 {d : Nat} {a0 : Nat} {a1 : Nat} {w : MW} (h0 : mTg w a1 = 4) (h1 : mTg w a0 = 4) (h2 : mE ≤ a0) (h3 : mTg (wI w a0 5 (mI w a1 5)) a1 = 4) (h4 : mTg (wI w a0 5 (mI w a1 5)) a0 = 4) (h5 : mTg (wI (wI w a0 5 (mI w a1 5)) a0 6 (mI (wI w a0 5 (mI w a1 5)) a1 6)) a1 = 4) (h6 : mTg (wI (wI w a0 5 (mI w a1 5)) a0 6 (mI (wI w a0 5 (mI w a1 5)) a1 6)) a0 = 4) : mX d 54 24 [.ref a0, .ref a1] [] w = mX d 54 48 [.ref a0, .ref a1] [] (wI (wI (wI w a0 5 (mI w a1 5)) a0 6 (mI (wI w a0 5 (mI w a1 5)) a1 6)) a0 7 (mI (wI (wI w a0 5 (mI w a1 5)) a0 6 (mI (wI w a0 5 (mI w a1 5)) a1 6)) a1 7)) := by
  refine Eq.trans (X_st f_54_24 rfl rfl) ?_
  refine Eq.trans (X_st f_54_25 rfl rfl) ?_
  refine Eq.trans (X_getI f_54_26 h0 rfl) ?_
  refine Eq.trans (X_putI f_54_29 h1 h2 rfl rfl) ?_
  refine Eq.trans (X_st f_54_32 rfl rfl) ?_
  refine Eq.trans (X_st f_54_33 rfl rfl) ?_
  refine Eq.trans (X_getI f_54_34 h3 rfl) ?_
  refine Eq.trans (X_putI f_54_37 h4 h2 rfl rfl) ?_
  refine Eq.trans (X_st f_54_40 rfl rfl) ?_
  refine Eq.trans (X_st f_54_41 rfl rfl) ?_
  refine Eq.trans (X_getI f_54_42 h5 rfl) ?_
  refine Eq.trans (X_putI f_54_45 h6 h2 rfl rfl) ?_
  exact mX_mask rfl
theorem b_54_48 {d : Nat} {a0 : Nat} {a1 : Nat} {w : MW} (h0 : mTg w a1 = 4) (h1 : mTg w a0 = 4) (h2 : mE ≤ a0) (h3 : mTg (wI w a0 8 (mI w a1 8)) a1 = 4) (h4 : mTg (wI w a0 8 (mI w a1 8)) a0 = 4) (h5 : mTg (wI (wI w a0 8 (mI w a1 8)) a0 9 (mI (wI w a0 8 (mI w a1 8)) a1 9)) a1 = 4) (h6 : mTg (wI (wI w a0 8 (mI w a1 8)) a0 9 (mI (wI w a0 8 (mI w a1 8)) a1 9)) a0 = 4) : mX d 54 48 [.ref a0, .ref a1] [] w = mX d 54 72 [.ref a0, .ref a1] [] (wI (wI (wI w a0 8 (mI w a1 8)) a0 9 (mI (wI w a0 8 (mI w a1 8)) a1 9)) a0 10 (mI (wI (wI w a0 8 (mI w a1 8)) a0 9 (mI (wI w a0 8 (mI w a1 8)) a1 9)) a1 10)) := by
  refine Eq.trans (X_st f_54_48 rfl rfl) ?_
  refine Eq.trans (X_st f_54_49 rfl rfl) ?_
  refine Eq.trans (X_getI f_54_50 h0 rfl) ?_
  refine Eq.trans (X_putI f_54_53 h1 h2 rfl rfl) ?_
  refine Eq.trans (X_st f_54_56 rfl rfl) ?_
  refine Eq.trans (X_st f_54_57 rfl rfl) ?_
  refine Eq.trans (X_getI f_54_58 h3 rfl) ?_
  refine Eq.trans (X_putI f_54_61 h4 h2 rfl rfl) ?_
  refine Eq.trans (X_st f_54_64 rfl rfl) ?_
  refine Eq.trans (X_st f_54_65 rfl rfl) ?_
  refine Eq.trans (X_getI f_54_66 h5 rfl) ?_
  refine Eq.trans (X_putI f_54_69 h6 h2 rfl rfl) ?_
  exact mX_mask rfl
theorem b_54_72 {d : Nat} {a0 : Nat} {a1 : Nat} {w : MW} (h0 : mTg w a1 = 4) (h1 : mR w a1 0 = some (gR w a1 0)) (h2 : mTg w a0 = 4) (h3 : mR w a0 0 = some (gR w a0 0)) : mX (d + 1) 54 72 [.ref a0, .ref a1] [] w = mThen (mK d 125 [.ref (gR w a1 0), .ref (gR w a0 0)] w) (fun v w9 => mX (d + 1) 54 83 [.ref a0, .ref a1] (v.toList ++ []) w9) := by
  refine Eq.trans (X_st f_54_72 rfl rfl) ?_
  refine Eq.trans (X_getR f_54_73 h0 rfl h1) ?_
  refine Eq.trans (X_st f_54_76 rfl rfl) ?_
  refine Eq.trans (X_getR f_54_77 h2 rfl h3) ?_
  refine Eq.trans (X_call f_54_80 (by decide) rfl rfl rfl rfl rfl rfl (Nat.le_of_ble_eq_true rfl) (Nat.le_of_ble_eq_true rfl) rfl (Nat.le_of_ble_eq_true rfl)) ?_
  exact mThen_eq fun v w9 => mX_mask rfl
theorem b_54_83 {d : Nat} {a0 : Nat} {a1 : Nat} {w : MW} (h0 : mTg w a1 = 4) (h1 : mR w a1 1 = some (gR w a1 1)) (h2 : mTg w a0 = 4) (h3 : mR w a0 1 = some (gR w a0 1)) : mX (d + 1) 54 83 [.ref a0, .ref a1] [] w = mThen (mK d 125 [.ref (gR w a1 1), .ref (gR w a0 1)] w) (fun v w9 => mX (d + 1) 54 94 [mJ, mJ] (v.toList ++ []) w9) := by
  refine Eq.trans (X_st f_54_83 rfl rfl) ?_
  refine Eq.trans (X_getR f_54_84 h0 rfl h1) ?_
  refine Eq.trans (X_st f_54_87 rfl rfl) ?_
  refine Eq.trans (X_getR f_54_88 h2 rfl h3) ?_
  refine Eq.trans (X_call f_54_91 (by decide) rfl rfl rfl rfl rfl rfl (Nat.le_of_ble_eq_true rfl) (Nat.le_of_ble_eq_true rfl) rfl (Nat.le_of_ble_eq_true rfl)) ?_
  exact mThen_eq fun v w9 => mX_mask rfl
theorem b_54_94 {d : Nat} {w : MW} : mX d 54 94 [mJ, mJ] [] w = some (.inl none, w) := by
  exact X_ret f_54_94 rfl rfl
/-! BeeTurnpike$Tape <init> ()V -/
theorem f_55_0 : mFetch 55 0 = some (.aload_n 0, 1, []) := by decide +kernel
theorem f_55_1 : mFetch 55 1 = some (.invokespecial 3, 3, [1002, 104]) := by decide +kernel
theorem f_55_4 : mFetch 55 4 = some (.aload_n 0, 1, []) := by decide +kernel
theorem f_55_5 : mFetch 55 5 = some (.sipush 2000, 3, []) := by decide +kernel
theorem f_55_8 : mFetch 55 8 = some (.newarray .int, 2, [50]) := by decide +kernel
theorem f_55_10 : mFetch 55 10 = some (.putfield 9, 3, [5, 0, 0, 105]) := by decide +kernel
theorem f_55_13 : mFetch 55 13 = some (.return_, 1, []) := by decide +kernel
theorem b_55_0 {d : Nat} {a0 : Nat} {w : MW} (h0 : mE ≤ a0) (h1 : mTg (wN w 50 2000 2000) a0 = 5) : mX d 55 0 [.ref a0] [] w = some (.inl none, wR (wN w 50 2000 2000) a0 0 (some (mSz w))) := by
  refine Eq.trans (X_st f_55_0 rfl rfl) ?_
  refine Eq.trans (X_st f_55_1 rfl (if_pos ⟨h0, Nat.le_of_ble_eq_true rfl⟩)) ?_
  refine Eq.trans (X_st f_55_4 rfl rfl) ?_
  refine Eq.trans (X_sipush f_55_5 kc_s_2000) ?_
  refine Eq.trans (X_newa f_55_8 kn_2000 kl_2000 (Nat.le_of_ble_eq_true rfl)) ?_
  refine Eq.trans (X_putR f_55_10 h1 h0 rfl) ?_
  exact X_ret f_55_13 rfl rfl
theorem e_55 {d : Nat} {a0 : Nat} {w : MW} : mK d 55 [.ref a0] w = mX d 55 0 [.ref a0] [] w := rfl
/-! BeeTurnpike$Tape append (I)V -/
theorem f_56_0 : mFetch 56 0 = some (.bipush 24, 2, []) := by decide +kernel
theorem f_56_2 : mFetch 56 2 = some (.istore_n 2, 1, []) := by decide +kernel
theorem f_56_3 : mFetch 56 3 = some (.iload_n 2, 1, []) := by decide +kernel
theorem f_56_4 : mFetch 56 4 = some (.ifCond .lt 37, 3, [41]) := by decide +kernel
theorem f_56_7 : mFetch 56 7 = some (.aload_n 0, 1, []) := by decide +kernel
theorem f_56_8 : mFetch 56 8 = some (.getfield 9, 3, [5, 0, 0, 105]) := by decide +kernel
theorem f_56_11 : mFetch 56 11 = some (.aload_n 0, 1, []) := by decide +kernel
theorem f_56_12 : mFetch 56 12 = some (.getfield 15, 3, [5, 1, 0, 107]) := by decide +kernel
theorem f_56_15 : mFetch 56 15 = some (.iload_n 1, 1, []) := by decide +kernel
theorem f_56_16 : mFetch 56 16 = some (.iload_n 2, 1, []) := by decide +kernel
theorem f_56_17 : mFetch 56 17 = some (.ishr, 1, []) := by decide +kernel
theorem f_56_18 : mFetch 56 18 = some (.sipush 255, 3, []) := by decide +kernel
theorem f_56_21 : mFetch 56 21 = some (.iand, 1, []) := by decide +kernel
theorem f_56_22 : mFetch 56 22 = some (.invokestatic 19, 3, [124, 3, 1, 0, 64, 689]) := by decide +kernel
theorem f_56_25 : mFetch 56 25 = some (.aload_n 0, 1, []) := by decide +kernel
theorem f_56_26 : mFetch 56 26 = some (.dup, 1, []) := by decide +kernel
theorem f_56_27 : mFetch 56 27 = some (.getfield 15, 3, [5, 1, 0, 107]) := by decide +kernel
theorem f_56_30 : mFetch 56 30 = some (.iconst 1, 1, []) := by decide +kernel
theorem f_56_31 : mFetch 56 31 = some (.iadd, 1, []) := by decide +kernel
theorem f_56_32 : mFetch 56 32 = some (.putfield 15, 3, [5, 1, 0, 107]) := by decide +kernel
theorem f_56_35 : mFetch 56 35 = some (.iinc 2 (-8), 3, []) := by decide +kernel
theorem f_56_38 : mFetch 56 38 = some (.goto (-35), 3, [3]) := by decide +kernel
theorem f_56_41 : mFetch 56 41 = some (.return_, 1, []) := by decide +kernel
theorem b_56_0 {d : Nat} {a0 : Nat} {x1 : Int32} {w : MW} : mX d 56 0 [.ref a0, .int x1, mJ] [] w = mX d 56 3 [.ref a0, .int x1, .int (nI 24)] [] w := by
  refine Eq.trans (X_bipush f_56_0 kc_b_24) ?_
  refine Eq.trans (X_istore_n (L' := [.ref a0, .int x1, .int (nI 24)]) f_56_2 (Nat.le_of_ble_eq_true rfl) rfl) ?_
  exact mX_mask rfl
theorem e_56 {d : Nat} {a0 : Nat} {x1 : Int32} {w : MW} : mK d 56 [.ref a0, .int x1] w = mX d 56 0 [.ref a0, .int x1, mJ] [] w := rfl
theorem b_56_3 {d : Nat} {a0 : Nat} {x1 : Int32} {x2 : Int32} {w : MW} : mX d 56 3 [.ref a0, .int x1, .int x2] [] w = (if x2 < nI 0 then mX d 56 41 [mJ, mJ, mJ] [] w else mX d 56 7 [.ref a0, .int x1, .int x2] [] w) := by
  refine Eq.trans (X_st f_56_3 rfl rfl) ?_
  refine Eq.trans (X_br f_56_4 rfl rfl) ?_
  exact mIte_eq (mX_mask rfl) (mX_mask rfl)
theorem b_56_7 {d : Nat} {a0 : Nat} {x1 : Int32} {x2 : Int32} {w : MW} (h0 : mTg w a0 = 5) (h1 : mR w a0 0 = some (gR w a0 0)) : mX (d + 1) 56 7 [.ref a0, .int x1, .int x2] [] w = mThen (mK d 124 [.ref (gR w a0 0), .int (mI w a0 1), .int ((x1 >>> (x2 &&& 31)) &&& (nI 255))] w) (fun v w9 => mX (d + 1) 56 25 [.ref a0, .int x1, .int x2] (v.toList ++ []) w9) := by
  refine Eq.trans (X_st f_56_7 rfl rfl) ?_
  refine Eq.trans (X_getR f_56_8 h0 rfl h1) ?_
  refine Eq.trans (X_st f_56_11 rfl rfl) ?_
  refine Eq.trans (X_getI f_56_12 h0 rfl) ?_
  refine Eq.trans (X_st f_56_15 rfl rfl) ?_
  refine Eq.trans (X_st f_56_16 rfl rfl) ?_
  refine Eq.trans (X_st f_56_17 rfl rfl) ?_
  refine Eq.trans (X_sipush f_56_18 kc_s_255) ?_
  refine Eq.trans (X_st f_56_21 rfl rfl) ?_
  refine Eq.trans (X_call f_56_22 (by decide) rfl rfl rfl rfl rfl rfl (Nat.le_of_ble_eq_true rfl) (Nat.le_of_ble_eq_true rfl) rfl (Nat.le_of_ble_eq_true rfl)) ?_
  exact mThen_eq fun v w9 => mX_mask rfl
theorem b_56_25 {d : Nat} {a0 : Nat} {x1 : Int32} {x2 : Int32} {w : MW} (h0 : mTg w a0 = 5) (h1 : mE ≤ a0) : mX d 56 25 [.ref a0, .int x1, .int x2] [] w = mX d 56 3 [.ref a0, .int x1, .int (x2 + (-8 : Int32))] [] (wI w a0 1 ((mI w a0 1) + (nI 1))) := by
  refine Eq.trans (X_st f_56_25 rfl rfl) ?_
  refine Eq.trans (X_dup f_56_26 rfl) ?_
  refine Eq.trans (X_getI f_56_27 h0 rfl) ?_
  refine Eq.trans (X_iconst f_56_30 kc_i_1) ?_
  refine Eq.trans (X_st f_56_31 rfl rfl) ?_
  refine Eq.trans (X_putI f_56_32 h0 h1 rfl rfl) ?_
  refine Eq.trans (X_iinc f_56_35 kc_i_m8 rfl rfl) ?_
  refine Eq.trans (X_st f_56_38 rfl rfl) ?_
  exact mX_mask rfl
theorem b_56_41 {d : Nat} {w : MW} : mX d 56 41 [mJ, mJ, mJ] [] w = some (.inl none, w) := by
  exact X_ret f_56_41 rfl rfl
/-! BeeTurnpike$Tape byteAt (I)I -/
theorem f_57_0 : mFetch 57 0 = some (.iload_n 1, 1, []) := by decide +kernel
theorem f_57_1 : mFetch 57 1 = some (.ifCond .lt 29, 3, [30]) := by decide +kernel
theorem f_57_4 : mFetch 57 4 = some (.iload_n 1, 1, []) := by decide +kernel
theorem f_57_5 : mFetch 57 5 = some (.aload_n 0, 1, []) := by decide +kernel
theorem f_57_6 : mFetch 57 6 = some (.getfield 15, 3, [5, 1, 0, 107]) := by decide +kernel
theorem f_57_9 : mFetch 57 9 = some (.if_icmp .ge 21, 3, [30]) := by decide +kernel
theorem f_57_12 : mFetch 57 12 = some (.iload_n 1, 1, []) := by decide +kernel
theorem f_57_13 : mFetch 57 13 = some (.aload_n 0, 1, []) := by decide +kernel
theorem f_57_14 : mFetch 57 14 = some (.getfield 9, 3, [5, 0, 0, 105]) := by decide +kernel
theorem f_57_17 : mFetch 57 17 = some (.arraylength, 1, []) := by decide +kernel
theorem f_57_18 : mFetch 57 18 = some (.if_icmp .ge 12, 3, [30]) := by decide +kernel
theorem f_57_21 : mFetch 57 21 = some (.aload_n 0, 1, []) := by decide +kernel
theorem f_57_22 : mFetch 57 22 = some (.getfield 9, 3, [5, 0, 0, 105]) := by decide +kernel
theorem f_57_25 : mFetch 57 25 = some (.iload_n 1, 1, []) := by decide +kernel
theorem f_57_26 : mFetch 57 26 = some (.iaload, 1, []) := by decide +kernel
theorem f_57_27 : mFetch 57 27 = some (.goto 4, 3, [31]) := by decide +kernel
theorem f_57_30 : mFetch 57 30 = some (.iconst (-1), 1, []) := by decide +kernel
theorem f_57_31 : mFetch 57 31 = some (.ireturn, 1, [0]) := by decide +kernel
theorem b_57_0 {d : Nat} {a0 : Nat} {x1 : Int32} {w : MW} : mX d 57 0 [.ref a0, .int x1] [] w = (if x1 < nI 0 then mX d 57 30 [mJ, mJ] [] w else mX d 57 4 [.ref a0, .int x1] [] w) := by
  refine Eq.trans (X_st f_57_0 rfl rfl) ?_
  refine Eq.trans (X_br f_57_1 rfl rfl) ?_
  exact mIte_eq (mX_mask rfl) (mX_mask rfl)
theorem e_57 {d : Nat} {a0 : Nat} {x1 : Int32} {w : MW} : mK d 57 [.ref a0, .int x1] w = mX d 57 0 [.ref a0, .int x1] [] w := rfl
theorem b_57_4 {d : Nat} {a0 : Nat} {x1 : Int32} {w : MW} (h0 : mTg w a0 = 5) : mX d 57 4 [.ref a0, .int x1] [] w = (if (mI w a0 1) ≤ x1 then mX d 57 30 [mJ, mJ] [] w else mX d 57 12 [.ref a0, .int x1] [] w) := by
  refine Eq.trans (X_st f_57_4 rfl rfl) ?_
  refine Eq.trans (X_st f_57_5 rfl rfl) ?_
  refine Eq.trans (X_getI f_57_6 h0 rfl) ?_
  refine Eq.trans (X_br f_57_9 rfl rfl) ?_
  exact mIte_eq (mX_mask rfl) (mX_mask rfl)
theorem b_57_12 {d : Nat} {a0 : Nat} {x1 : Int32} {w : MW} (h0 : mTg w a0 = 5) (h1 : mR w a0 0 = some (gR w a0 0)) (h2 : 50 ≤ mTg w (gR w a0 0) ∧ mTg w (gR w a0 0) < 55) : mX d 57 12 [.ref a0, .int x1] [] w = (if (nI (mLn w (gR w a0 0))) ≤ x1 then mX d 57 30 [mJ, mJ] [] w else mX d 57 21 [.ref a0, .int x1] [] w) := by
  refine Eq.trans (X_st f_57_12 rfl rfl) ?_
  refine Eq.trans (X_st f_57_13 rfl rfl) ?_
  refine Eq.trans (X_getR f_57_14 h0 rfl h1) ?_
  refine Eq.trans (X_st f_57_17 rfl (if_pos h2)) ?_
  refine Eq.trans (X_br f_57_18 rfl rfl) ?_
  exact mIte_eq (mX_mask rfl) (mX_mask rfl)
theorem b_57_21 {d : Nat} {a0 : Nat} {x1 : Int32} {w : MW} (h0 : mTg w a0 = 5) (h1 : mR w a0 0 = some (gR w a0 0)) (h2 : mTg w (gR w a0 0) = 50) (h3 : ¬ x1 < nI 0) (h4 : x1.toNatClampNeg < mLn w (gR w a0 0)) : mX d 57 21 [.ref a0, .int x1] [] w = mX d 57 31 [mJ, mJ] [.int (mI w (gR w a0 0) x1.toNatClampNeg)] w := by
  refine Eq.trans (X_st f_57_21 rfl rfl) ?_
  refine Eq.trans (X_getR f_57_22 h0 rfl h1) ?_
  refine Eq.trans (X_st f_57_25 rfl rfl) ?_
  refine Eq.trans (X_iald f_57_26 h2 h3 rfl h4) ?_
  refine Eq.trans (X_st f_57_27 rfl rfl) ?_
  exact mX_mask rfl
theorem b_57_30 {d : Nat} {w : MW} : mX d 57 30 [mJ, mJ] [] w = mX d 57 31 [mJ, mJ] [.int (-1 : Int32)] w := by
  refine Eq.trans (X_iconst f_57_30 kc_i_m1) ?_
  exact mX_mask rfl
theorem b_57_31 {d : Nat} {y0 : Int32} {w : MW} : mX d 57 31 [mJ, mJ] [.int y0] w = some (.inl (some (.int y0)), w) := by
  exact X_ireturn f_57_31 rfl
/-! BeeTurnpike$Tape isLetter (I)Z -/
theorem f_58_0 : mFetch 58 0 = some (.aload_n 0, 1, []) := by decide +kernel
theorem f_58_1 : mFetch 58 1 = some (.iload_n 1, 1, []) := by decide +kernel
theorem f_58_2 : mFetch 58 2 = some (.invokevirtual 23, 3, [57, 2, 2, 5, 1035, 1036, 1037]) := by decide +kernel
theorem f_58_5 : mFetch 58 5 = some (.istore_n 2, 1, []) := by decide +kernel
theorem f_58_6 : mFetch 58 6 = some (.iload_n 2, 1, []) := by decide +kernel
theorem f_58_7 : mFetch 58 7 = some (.bipush 97, 2, []) := by decide +kernel
theorem f_58_9 : mFetch 58 9 = some (.if_icmp .lt 13, 3, [22]) := by decide +kernel
theorem f_58_12 : mFetch 58 12 = some (.iload_n 2, 1, []) := by decide +kernel
theorem f_58_13 : mFetch 58 13 = some (.bipush 122, 2, []) := by decide +kernel
theorem f_58_15 : mFetch 58 15 = some (.if_icmp .gt 7, 3, [22]) := by decide +kernel
theorem f_58_18 : mFetch 58 18 = some (.iconst 1, 1, []) := by decide +kernel
theorem f_58_19 : mFetch 58 19 = some (.goto 4, 3, [23]) := by decide +kernel
theorem f_58_22 : mFetch 58 22 = some (.iconst 0, 1, []) := by decide +kernel
theorem f_58_23 : mFetch 58 23 = some (.ireturn, 1, [2]) := by decide +kernel
theorem b_58_0 {d : Nat} {a0 : Nat} {x1 : Int32} {w : MW} (h0 : mTg w a0 = 5) : mX (d + 1) 58 0 [.ref a0, .int x1, mJ] [] w = mThen (mK d 57 [.ref a0, .int x1] w) (fun v w9 => mX (d + 1) 58 5 [mJ, mJ, mJ] (v.toList ++ []) w9) := by
  refine Eq.trans (X_st f_58_0 rfl rfl) ?_
  refine Eq.trans (X_st f_58_1 rfl rfl) ?_
  refine Eq.trans (X_call f_58_2 (by decide) rfl rfl rfl rfl rfl rfl (Nat.le_of_ble_eq_true rfl) (Nat.le_of_ble_eq_true rfl) (decide_eq_true h0) (Nat.le_of_ble_eq_true rfl)) ?_
  exact mThen_eq fun v w9 => mX_mask rfl
theorem e_58 {d : Nat} {a0 : Nat} {x1 : Int32} {w : MW} : mK d 58 [.ref a0, .int x1] w = mX d 58 0 [.ref a0, .int x1, mJ] [] w := rfl
theorem b_58_5 {d : Nat} {y0 : Int32} {w : MW} : mX d 58 5 [mJ, mJ, mJ] [.int y0] w = (if y0 < (nI 97) then mX d 58 22 [mJ, mJ, mJ] [] w else mX d 58 12 [mJ, mJ, .int y0] [] w) := by
  refine Eq.trans (X_istore_n (L' := [mJ, mJ, .int y0]) f_58_5 (Nat.le_of_ble_eq_true rfl) rfl) ?_
  refine Eq.trans (X_st f_58_6 rfl rfl) ?_
  refine Eq.trans (X_bipush f_58_7 kc_b_97) ?_
  refine Eq.trans (X_br f_58_9 rfl rfl) ?_
  exact mIte_eq (mX_mask rfl) (mX_mask rfl)
theorem b_58_12 {d : Nat} {x2 : Int32} {w : MW} : mX d 58 12 [mJ, mJ, .int x2] [] w = (if (nI 122) < x2 then mX d 58 22 [mJ, mJ, mJ] [] w else mX d 58 18 [mJ, mJ, mJ] [] w) := by
  refine Eq.trans (X_st f_58_12 rfl rfl) ?_
  refine Eq.trans (X_bipush f_58_13 kc_b_122) ?_
  refine Eq.trans (X_br f_58_15 rfl rfl) ?_
  exact mIte_eq (mX_mask rfl) (mX_mask rfl)
theorem b_58_18 {d : Nat} {w : MW} : mX d 58 18 [mJ, mJ, mJ] [] w = mX d 58 23 [mJ, mJ, mJ] [.int (nI 1)] w := by
  refine Eq.trans (X_iconst f_58_18 kc_i_1) ?_
  refine Eq.trans (X_st f_58_19 rfl rfl) ?_
  exact mX_mask rfl
theorem b_58_22 {d : Nat} {w : MW} : mX d 58 22 [mJ, mJ, mJ] [] w = mX d 58 23 [mJ, mJ, mJ] [.int (nI 0)] w := by
  refine Eq.trans (X_iconst f_58_22 kc_i_0) ?_
  exact mX_mask rfl
theorem b_58_23 {d : Nat} {y0 : Int32} {w : MW} (h0 : mRk 2 y0 = true) : mX d 58 23 [mJ, mJ, mJ] [.int y0] w = some (.inl (some (.int y0)), w) := by
  exact X_ireturn f_58_23 h0
/-! BeeTurnpike$Tape isDigit (I)Z -/
theorem f_59_0 : mFetch 59 0 = some (.aload_n 0, 1, []) := by decide +kernel
theorem f_59_1 : mFetch 59 1 = some (.iload_n 1, 1, []) := by decide +kernel
theorem f_59_2 : mFetch 59 2 = some (.invokevirtual 23, 3, [57, 2, 2, 5, 1035, 1036, 1037]) := by decide +kernel
theorem f_59_5 : mFetch 59 5 = some (.istore_n 2, 1, []) := by decide +kernel
theorem f_59_6 : mFetch 59 6 = some (.iload_n 2, 1, []) := by decide +kernel
theorem f_59_7 : mFetch 59 7 = some (.bipush 48, 2, []) := by decide +kernel
theorem f_59_9 : mFetch 59 9 = some (.if_icmp .lt 13, 3, [22]) := by decide +kernel
theorem f_59_12 : mFetch 59 12 = some (.iload_n 2, 1, []) := by decide +kernel
theorem f_59_13 : mFetch 59 13 = some (.bipush 57, 2, []) := by decide +kernel
theorem f_59_15 : mFetch 59 15 = some (.if_icmp .gt 7, 3, [22]) := by decide +kernel
theorem f_59_18 : mFetch 59 18 = some (.iconst 1, 1, []) := by decide +kernel
theorem f_59_19 : mFetch 59 19 = some (.goto 4, 3, [23]) := by decide +kernel
theorem f_59_22 : mFetch 59 22 = some (.iconst 0, 1, []) := by decide +kernel
theorem f_59_23 : mFetch 59 23 = some (.ireturn, 1, [2]) := by decide +kernel
theorem b_59_0 {d : Nat} {a0 : Nat} {x1 : Int32} {w : MW} (h0 : mTg w a0 = 5) : mX (d + 1) 59 0 [.ref a0, .int x1, mJ] [] w = mThen (mK d 57 [.ref a0, .int x1] w) (fun v w9 => mX (d + 1) 59 5 [mJ, mJ, mJ] (v.toList ++ []) w9) := by
  refine Eq.trans (X_st f_59_0 rfl rfl) ?_
  refine Eq.trans (X_st f_59_1 rfl rfl) ?_
  refine Eq.trans (X_call f_59_2 (by decide) rfl rfl rfl rfl rfl rfl (Nat.le_of_ble_eq_true rfl) (Nat.le_of_ble_eq_true rfl) (decide_eq_true h0) (Nat.le_of_ble_eq_true rfl)) ?_
  exact mThen_eq fun v w9 => mX_mask rfl
theorem e_59 {d : Nat} {a0 : Nat} {x1 : Int32} {w : MW} : mK d 59 [.ref a0, .int x1] w = mX d 59 0 [.ref a0, .int x1, mJ] [] w := rfl
theorem b_59_5 {d : Nat} {y0 : Int32} {w : MW} : mX d 59 5 [mJ, mJ, mJ] [.int y0] w = (if y0 < (nI 48) then mX d 59 22 [mJ, mJ, mJ] [] w else mX d 59 12 [mJ, mJ, .int y0] [] w) := by
  refine Eq.trans (X_istore_n (L' := [mJ, mJ, .int y0]) f_59_5 (Nat.le_of_ble_eq_true rfl) rfl) ?_
  refine Eq.trans (X_st f_59_6 rfl rfl) ?_
  refine Eq.trans (X_bipush f_59_7 kc_b_48) ?_
  refine Eq.trans (X_br f_59_9 rfl rfl) ?_
  exact mIte_eq (mX_mask rfl) (mX_mask rfl)
theorem b_59_12 {d : Nat} {x2 : Int32} {w : MW} : mX d 59 12 [mJ, mJ, .int x2] [] w = (if (nI 57) < x2 then mX d 59 22 [mJ, mJ, mJ] [] w else mX d 59 18 [mJ, mJ, mJ] [] w) := by
  refine Eq.trans (X_st f_59_12 rfl rfl) ?_
  refine Eq.trans (X_bipush f_59_13 kc_b_57) ?_
  refine Eq.trans (X_br f_59_15 rfl rfl) ?_
  exact mIte_eq (mX_mask rfl) (mX_mask rfl)
theorem b_59_18 {d : Nat} {w : MW} : mX d 59 18 [mJ, mJ, mJ] [] w = mX d 59 23 [mJ, mJ, mJ] [.int (nI 1)] w := by
  refine Eq.trans (X_iconst f_59_18 kc_i_1) ?_
  refine Eq.trans (X_st f_59_19 rfl rfl) ?_
  exact mX_mask rfl
theorem b_59_22 {d : Nat} {w : MW} : mX d 59 22 [mJ, mJ, mJ] [] w = mX d 59 23 [mJ, mJ, mJ] [.int (nI 0)] w := by
  refine Eq.trans (X_iconst f_59_22 kc_i_0) ?_
  exact mX_mask rfl
theorem b_59_23 {d : Nat} {y0 : Int32} {w : MW} (h0 : mRk 2 y0 = true) : mX d 59 23 [mJ, mJ, mJ] [.int y0] w = some (.inl (some (.int y0)), w) := by
  exact X_ireturn f_59_23 h0
/-! BeeTurnpike$Tape isBlank (I)Z -/
theorem f_60_0 : mFetch 60 0 = some (.aload_n 0, 1, []) := by decide +kernel
theorem f_60_1 : mFetch 60 1 = some (.iload_n 1, 1, []) := by decide +kernel
theorem f_60_2 : mFetch 60 2 = some (.invokevirtual 23, 3, [57, 2, 2, 5, 1035, 1036, 1037]) := by decide +kernel
theorem f_60_5 : mFetch 60 5 = some (.istore_n 2, 1, []) := by decide +kernel
theorem f_60_6 : mFetch 60 6 = some (.iload_n 2, 1, []) := by decide +kernel
theorem f_60_7 : mFetch 60 7 = some (.bipush 32, 2, []) := by decide +kernel
theorem f_60_9 : mFetch 60 9 = some (.if_icmp .eq 9, 3, [18]) := by decide +kernel
theorem f_60_12 : mFetch 60 12 = some (.iload_n 2, 1, []) := by decide +kernel
theorem f_60_13 : mFetch 60 13 = some (.bipush 10, 2, []) := by decide +kernel
theorem f_60_15 : mFetch 60 15 = some (.if_icmp .ne 7, 3, [22]) := by decide +kernel
theorem f_60_18 : mFetch 60 18 = some (.iconst 1, 1, []) := by decide +kernel
theorem f_60_19 : mFetch 60 19 = some (.goto 4, 3, [23]) := by decide +kernel
theorem f_60_22 : mFetch 60 22 = some (.iconst 0, 1, []) := by decide +kernel
theorem f_60_23 : mFetch 60 23 = some (.ireturn, 1, [2]) := by decide +kernel
theorem b_60_0 {d : Nat} {a0 : Nat} {x1 : Int32} {w : MW} (h0 : mTg w a0 = 5) : mX (d + 1) 60 0 [.ref a0, .int x1, mJ] [] w = mThen (mK d 57 [.ref a0, .int x1] w) (fun v w9 => mX (d + 1) 60 5 [mJ, mJ, mJ] (v.toList ++ []) w9) := by
  refine Eq.trans (X_st f_60_0 rfl rfl) ?_
  refine Eq.trans (X_st f_60_1 rfl rfl) ?_
  refine Eq.trans (X_call f_60_2 (by decide) rfl rfl rfl rfl rfl rfl (Nat.le_of_ble_eq_true rfl) (Nat.le_of_ble_eq_true rfl) (decide_eq_true h0) (Nat.le_of_ble_eq_true rfl)) ?_
  exact mThen_eq fun v w9 => mX_mask rfl
theorem e_60 {d : Nat} {a0 : Nat} {x1 : Int32} {w : MW} : mK d 60 [.ref a0, .int x1] w = mX d 60 0 [.ref a0, .int x1, mJ] [] w := rfl
theorem b_60_5 {d : Nat} {y0 : Int32} {w : MW} : mX d 60 5 [mJ, mJ, mJ] [.int y0] w = (if y0 = (nI 32) then mX d 60 18 [mJ, mJ, mJ] [] w else mX d 60 12 [mJ, mJ, .int y0] [] w) := by
  refine Eq.trans (X_istore_n (L' := [mJ, mJ, .int y0]) f_60_5 (Nat.le_of_ble_eq_true rfl) rfl) ?_
  refine Eq.trans (X_st f_60_6 rfl rfl) ?_
  refine Eq.trans (X_bipush f_60_7 kc_b_32) ?_
  refine Eq.trans (X_br f_60_9 rfl rfl) ?_
  exact mIte_eq (mX_mask rfl) (mX_mask rfl)
theorem b_60_12 {d : Nat} {x2 : Int32} {w : MW} : mX d 60 12 [mJ, mJ, .int x2] [] w = (if ¬ x2 = (nI 10) then mX d 60 22 [mJ, mJ, mJ] [] w else mX d 60 18 [mJ, mJ, mJ] [] w) := by
  refine Eq.trans (X_st f_60_12 rfl rfl) ?_
  refine Eq.trans (X_bipush f_60_13 kc_b_10) ?_
  refine Eq.trans (X_br f_60_15 rfl rfl) ?_
  exact mIte_eq (mX_mask rfl) (mX_mask rfl)
theorem b_60_18 {d : Nat} {w : MW} : mX d 60 18 [mJ, mJ, mJ] [] w = mX d 60 23 [mJ, mJ, mJ] [.int (nI 1)] w := by
  refine Eq.trans (X_iconst f_60_18 kc_i_1) ?_
  refine Eq.trans (X_st f_60_19 rfl rfl) ?_
  exact mX_mask rfl
theorem b_60_22 {d : Nat} {w : MW} : mX d 60 22 [mJ, mJ, mJ] [] w = mX d 60 23 [mJ, mJ, mJ] [.int (nI 0)] w := by
  refine Eq.trans (X_iconst f_60_22 kc_i_0) ?_
  exact mX_mask rfl
theorem b_60_23 {d : Nat} {y0 : Int32} {w : MW} (h0 : mRk 2 y0 = true) : mX d 60 23 [mJ, mJ, mJ] [.int y0] w = some (.inl (some (.int y0)), w) := by
  exact X_ireturn f_60_23 h0
