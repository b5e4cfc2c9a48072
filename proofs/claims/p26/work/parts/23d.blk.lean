/-! ===== BLOCKS: by program (wip/p26/blk.py) ===== -/
/-! BeeTurnpike <init> ()V -/
theorem f_95_0 : mFetch 95 0 = some (.aload_n 0, 1, []) := by decide +kernel
theorem f_95_1 : mFetch 95 1 = some (.invokespecial 1, 3, [1002, 96]) := by decide +kernel
theorem f_95_4 : mFetch 95 4 = some (.aload_n 0, 1, []) := by decide +kernel
theorem f_95_5 : mFetch 95 5 = some (.new 7, 3, [5, 99]) := by decide +kernel
theorem f_95_8 : mFetch 95 8 = some (.dup, 1, []) := by decide +kernel
theorem f_95_9 : mFetch 95 9 = some (.invokespecial 9, 3, [55, 1, 6, 0, 93, 102]) := by decide +kernel
theorem f_95_12 : mFetch 95 12 = some (.putfield 10, 3, [9, 0, 0, 445]) := by decide +kernel
theorem f_95_15 : mFetch 95 15 = some (.aload_n 0, 1, []) := by decide +kernel
theorem f_95_16 : mFetch 95 16 = some (.new 16, 3, [7, 114]) := by decide +kernel
theorem f_95_19 : mFetch 95 19 = some (.dup, 1, []) := by decide +kernel
theorem f_95_20 : mFetch 95 20 = some (.aload_n 0, 1, []) := by decide +kernel
theorem f_95_21 : mFetch 95 21 = some (.getfield 10, 3, [9, 0, 0, 445]) := by decide +kernel
theorem f_95_24 : mFetch 95 24 = some (.invokespecial 18, 3, [72, 2, 5, 0, 116, 117]) := by decide +kernel
theorem f_95_27 : mFetch 95 27 = some (.putfield 21, 3, [9, 1, 0, 446]) := by decide +kernel
theorem f_95_30 : mFetch 95 30 = some (.aload_n 0, 1, []) := by decide +kernel
theorem f_95_31 : mFetch 95 31 = some (.new 25, 3, [8, 151]) := by decide +kernel
theorem f_95_34 : mFetch 95 34 = some (.dup, 1, []) := by decide +kernel
theorem f_95_35 : mFetch 95 35 = some (.invokespecial 27, 3, [84, 1, 6, 0, 94, 154]) := by decide +kernel
theorem f_95_38 : mFetch 95 38 = some (.putfield 28, 3, [9, 2, 0, 447]) := by decide +kernel
theorem f_95_41 : mFetch 95 41 = some (.aload_n 0, 1, []) := by decide +kernel
theorem f_95_42 : mFetch 95 42 = some (.new 25, 3, [8, 151]) := by decide +kernel
theorem f_95_45 : mFetch 95 45 = some (.dup, 1, []) := by decide +kernel
theorem f_95_46 : mFetch 95 46 = some (.invokespecial 27, 3, [84, 1, 6, 0, 94, 154]) := by decide +kernel
theorem f_95_49 : mFetch 95 49 = some (.putfield 32, 3, [9, 3, 0, 448]) := by decide +kernel
theorem f_95_52 : mFetch 95 52 = some (.aload_n 0, 1, []) := by decide +kernel
theorem f_95_53 : mFetch 95 53 = some (.new 35, 3, [2, 267]) := by decide +kernel
theorem f_95_56 : mFetch 95 56 = some (.dup, 1, []) := by decide +kernel
theorem f_95_57 : mFetch 95 57 = some (.aload_n 0, 1, []) := by decide +kernel
theorem f_95_58 : mFetch 95 58 = some (.getfield 21, 3, [9, 1, 0, 446]) := by decide +kernel
theorem f_95_61 : mFetch 95 61 = some (.aload_n 0, 1, []) := by decide +kernel
theorem f_95_62 : mFetch 95 62 = some (.getfield 32, 3, [9, 3, 0, 448]) := by decide +kernel
theorem f_95_65 : mFetch 95 65 = some (.getfield 37, 3, [8, 17, 1, 95]) := by decide +kernel
theorem f_95_68 : mFetch 95 68 = some (.invokespecial 41, 3, [33, 3, 5, 0, 269, 270]) := by decide +kernel
theorem f_95_71 : mFetch 95 71 = some (.putfield 44, 3, [9, 4, 0, 449]) := by decide +kernel
theorem f_95_74 : mFetch 95 74 = some (.aload_n 0, 1, []) := by decide +kernel
theorem f_95_75 : mFetch 95 75 = some (.new 48, 3, [6, 286]) := by decide +kernel
theorem f_95_78 : mFetch 95 78 = some (.dup, 1, []) := by decide +kernel
theorem f_95_79 : mFetch 95 79 = some (.aload_n 0, 1, []) := by decide +kernel
theorem f_95_80 : mFetch 95 80 = some (.getfield 21, 3, [9, 1, 0, 446]) := by decide +kernel
theorem f_95_83 : mFetch 95 83 = some (.aload_n 0, 1, []) := by decide +kernel
theorem f_95_84 : mFetch 95 84 = some (.getfield 32, 3, [9, 3, 0, 448]) := by decide +kernel
theorem f_95_87 : mFetch 95 87 = some (.invokespecial 50, 3, [61, 3, 5, 0, 288, 289]) := by decide +kernel
theorem f_95_90 : mFetch 95 90 = some (.putfield 53, 3, [9, 5, 0, 450]) := by decide +kernel
theorem f_95_93 : mFetch 95 93 = some (.aload_n 0, 1, []) := by decide +kernel
theorem f_95_94 : mFetch 95 94 = some (.new 57, 3, [0, 309]) := by decide +kernel
theorem f_95_97 : mFetch 95 97 = some (.dup, 1, []) := by decide +kernel
theorem f_95_98 : mFetch 95 98 = some (.aload_n 0, 1, []) := by decide +kernel
theorem f_95_99 : mFetch 95 99 = some (.getfield 28, 3, [9, 2, 0, 447]) := by decide +kernel
theorem f_95_102 : mFetch 95 102 = some (.invokespecial 59, 3, [0, 2, 5, 0, 311, 312]) := by decide +kernel
theorem f_95_105 : mFetch 95 105 = some (.putfield 62, 3, [9, 6, 0, 451]) := by decide +kernel
theorem f_95_108 : mFetch 95 108 = some (.aload_n 0, 1, []) := by decide +kernel
theorem f_95_109 : mFetch 95 109 = some (.new 57, 3, [0, 309]) := by decide +kernel
theorem f_95_112 : mFetch 95 112 = some (.dup, 1, []) := by decide +kernel
theorem f_95_113 : mFetch 95 113 = some (.aload_n 0, 1, []) := by decide +kernel
theorem f_95_114 : mFetch 95 114 = some (.getfield 28, 3, [9, 2, 0, 447]) := by decide +kernel
theorem f_95_117 : mFetch 95 117 = some (.invokespecial 59, 3, [0, 2, 5, 0, 311, 312]) := by decide +kernel
theorem f_95_120 : mFetch 95 120 = some (.putfield 66, 3, [9, 7, 0, 452]) := by decide +kernel
theorem f_95_123 : mFetch 95 123 = some (.aload_n 0, 1, []) := by decide +kernel
theorem f_95_124 : mFetch 95 124 = some (.iconst (-1), 1, []) := by decide +kernel
theorem f_95_125 : mFetch 95 125 = some (.putfield 69, 3, [9, 8, 0, 453]) := by decide +kernel
theorem f_95_128 : mFetch 95 128 = some (.return_, 1, []) := by decide +kernel
theorem b_95_0 {d : Nat} {a0 : Nat} {w : MW} (h0 : mE ≤ a0) (h1 : mE ≤ (mSz w)) : mX (d + 1) 95 0 [.ref a0] [] w = mThen (mK d 55 [.ref (mSz w)] (wN w 5 0 (mNf 5))) (fun v w9 => mX (d + 1) 95 12 [.ref a0] (v.toList ++ [.ref (mSz w), .ref a0]) w9) := by
  refine Eq.trans (X_st f_95_0 rfl rfl) ?_
  refine Eq.trans (X_st f_95_1 rfl (if_pos ⟨h0, Nat.le_of_ble_eq_true rfl⟩)) ?_
  refine Eq.trans (X_st f_95_4 rfl rfl) ?_
  refine Eq.trans (X_new f_95_5 (Nat.le_of_ble_eq_true rfl)) ?_
  refine Eq.trans (X_dup f_95_8 rfl) ?_
  refine Eq.trans (X_call f_95_9 (by decide) rfl rfl rfl rfl rfl rfl (Nat.le_of_ble_eq_true rfl) (Nat.le_of_ble_eq_true rfl) (decide_eq_true h1) (Nat.le_of_ble_eq_true rfl)) ?_
  exact mThen_eq fun v w9 => mX_mask rfl
theorem e_95 {d : Nat} {a0 : Nat} {w : MW} : mK d 95 [.ref a0] w = mX d 95 0 [.ref a0] [] w := rfl
theorem b_95_12 {d : Nat} {a0 : Nat} {b0 : Nat} {b1 : Nat} {w : MW} (h0 : mTg w b1 = 9) (h1 : mE ≤ b1) (h2 : mTg (wN (wR w b1 0 (some b0)) 7 0 (mNf 7)) a0 = 9) (h3 : mR (wN (wR w b1 0 (some b0)) 7 0 (mNf 7)) a0 0 = some (gR (wN (wR w b1 0 (some b0)) 7 0 (mNf 7)) a0 0)) (h4 : mE ≤ (mSz (wR w b1 0 (some b0)))) : mX (d + 1) 95 12 [.ref a0] [.ref b0, .ref b1] w = mThen (mK d 72 [.ref (mSz (wR w b1 0 (some b0))), .ref (gR (wN (wR w b1 0 (some b0)) 7 0 (mNf 7)) a0 0)] (wN (wR w b1 0 (some b0)) 7 0 (mNf 7))) (fun v w9 => mX (d + 1) 95 27 [.ref a0] (v.toList ++ [.ref (mSz (wR w b1 0 (some b0))), .ref a0]) w9) := by
  refine Eq.trans (X_putR f_95_12 h0 h1 rfl) ?_
  refine Eq.trans (X_st f_95_15 rfl rfl) ?_
  refine Eq.trans (X_new f_95_16 (Nat.le_of_ble_eq_true rfl)) ?_
  refine Eq.trans (X_dup f_95_19 rfl) ?_
  refine Eq.trans (X_st f_95_20 rfl rfl) ?_
  refine Eq.trans (X_getR f_95_21 h2 rfl h3) ?_
  refine Eq.trans (X_call f_95_24 (by decide) rfl rfl rfl rfl rfl rfl (Nat.le_of_ble_eq_true rfl) (Nat.le_of_ble_eq_true rfl) (decide_eq_true h4) (Nat.le_of_ble_eq_true rfl)) ?_
  exact mThen_eq fun v w9 => mX_mask rfl
theorem b_95_27 {d : Nat} {a0 : Nat} {b0 : Nat} {b1 : Nat} {w : MW} (h0 : mTg w b1 = 9) (h1 : mE ≤ b1) (h2 : mE ≤ (mSz (wR w b1 1 (some b0)))) : mX (d + 1) 95 27 [.ref a0] [.ref b0, .ref b1] w = mThen (mK d 84 [.ref (mSz (wR w b1 1 (some b0)))] (wN (wR w b1 1 (some b0)) 8 0 (mNf 8))) (fun v w9 => mX (d + 1) 95 38 [.ref a0] (v.toList ++ [.ref (mSz (wR w b1 1 (some b0))), .ref a0]) w9) := by
  refine Eq.trans (X_putR f_95_27 h0 h1 rfl) ?_
  refine Eq.trans (X_st f_95_30 rfl rfl) ?_
  refine Eq.trans (X_new f_95_31 (Nat.le_of_ble_eq_true rfl)) ?_
  refine Eq.trans (X_dup f_95_34 rfl) ?_
  refine Eq.trans (X_call f_95_35 (by decide) rfl rfl rfl rfl rfl rfl (Nat.le_of_ble_eq_true rfl) (Nat.le_of_ble_eq_true rfl) (decide_eq_true h2) (Nat.le_of_ble_eq_true rfl)) ?_
  exact mThen_eq fun v w9 => mX_mask rfl
theorem b_95_38 {d : Nat} {a0 : Nat} {b0 : Nat} {b1 : Nat} {w : MW} (h0 : mTg w b1 = 9) (h1 : mE ≤ b1) (h2 : mE ≤ (mSz (wR w b1 2 (some b0)))) : mX (d + 1) 95 38 [.ref a0] [.ref b0, .ref b1] w = mThen (mK d 84 [.ref (mSz (wR w b1 2 (some b0)))] (wN (wR w b1 2 (some b0)) 8 0 (mNf 8))) (fun v w9 => mX (d + 1) 95 49 [.ref a0] (v.toList ++ [.ref (mSz (wR w b1 2 (some b0))), .ref a0]) w9) := by
  refine Eq.trans (X_putR f_95_38 h0 h1 rfl) ?_
  refine Eq.trans (X_st f_95_41 rfl rfl) ?_
  refine Eq.trans (X_new f_95_42 (Nat.le_of_ble_eq_true rfl)) ?_
  refine Eq.trans (X_dup f_95_45 rfl) ?_
  refine Eq.trans (X_call f_95_46 (by decide) rfl rfl rfl rfl rfl rfl (Nat.le_of_ble_eq_true rfl) (Nat.le_of_ble_eq_true rfl) (decide_eq_true h2) (Nat.le_of_ble_eq_true rfl)) ?_
  exact mThen_eq fun v w9 => mX_mask rfl
theorem b_95_49 {d : Nat} {a0 : Nat} {b0 : Nat} {b1 : Nat} {w : MW} (h0 : mTg w b1 = 9) (h1 : mE ≤ b1) (h2 : mTg (wN (wR w b1 3 (some b0)) 2 0 (mNf 2)) a0 = 9) (h3 : mR (wN (wR w b1 3 (some b0)) 2 0 (mNf 2)) a0 1 = some (gR (wN (wR w b1 3 (some b0)) 2 0 (mNf 2)) a0 1)) (h4 : mR (wN (wR w b1 3 (some b0)) 2 0 (mNf 2)) a0 3 = some (gR (wN (wR w b1 3 (some b0)) 2 0 (mNf 2)) a0 3)) (h5 : mTg (wN (wR w b1 3 (some b0)) 2 0 (mNf 2)) (gR (wN (wR w b1 3 (some b0)) 2 0 (mNf 2)) a0 3) = 8) (h6 : mR (wN (wR w b1 3 (some b0)) 2 0 (mNf 2)) (gR (wN (wR w b1 3 (some b0)) 2 0 (mNf 2)) a0 3) 17 = some (gR (wN (wR w b1 3 (some b0)) 2 0 (mNf 2)) (gR (wN (wR w b1 3 (some b0)) 2 0 (mNf 2)) a0 3) 17)) (h7 : mE ≤ (mSz (wR w b1 3 (some b0)))) : mX (d + 1) 95 49 [.ref a0] [.ref b0, .ref b1] w = mThen (mK d 33 [.ref (mSz (wR w b1 3 (some b0))), .ref (gR (wN (wR w b1 3 (some b0)) 2 0 (mNf 2)) a0 1), .ref (gR (wN (wR w b1 3 (some b0)) 2 0 (mNf 2)) (gR (wN (wR w b1 3 (some b0)) 2 0 (mNf 2)) a0 3) 17)] (wN (wR w b1 3 (some b0)) 2 0 (mNf 2))) (fun v w9 => mX (d + 1) 95 71 [.ref a0] (v.toList ++ [.ref (mSz (wR w b1 3 (some b0))), .ref a0]) w9) := by
  refine Eq.trans (X_putR f_95_49 h0 h1 rfl) ?_
  refine Eq.trans (X_st f_95_52 rfl rfl) ?_
  refine Eq.trans (X_new f_95_53 (Nat.le_of_ble_eq_true rfl)) ?_
  refine Eq.trans (X_dup f_95_56 rfl) ?_
  refine Eq.trans (X_st f_95_57 rfl rfl) ?_
  refine Eq.trans (X_getR f_95_58 h2 rfl h3) ?_
  refine Eq.trans (X_st f_95_61 rfl rfl) ?_
  refine Eq.trans (X_getR f_95_62 h2 rfl h4) ?_
  refine Eq.trans (X_getR f_95_65 h5 rfl h6) ?_
  refine Eq.trans (X_call f_95_68 (by decide) rfl rfl rfl rfl rfl rfl (Nat.le_of_ble_eq_true rfl) (Nat.le_of_ble_eq_true rfl) (decide_eq_true h7) (Nat.le_of_ble_eq_true rfl)) ?_
  exact mThen_eq fun v w9 => mX_mask rfl
theorem b_95_71 {d : Nat} {a0 : Nat} {b0 : Nat} {b1 : Nat} {w : MW} (h0 : mTg w b1 = 9) (h1 : mE ≤ b1) (h2 : mTg (wN (wR w b1 4 (some b0)) 6 0 (mNf 6)) a0 = 9) (h3 : mR (wN (wR w b1 4 (some b0)) 6 0 (mNf 6)) a0 1 = some (gR (wN (wR w b1 4 (some b0)) 6 0 (mNf 6)) a0 1)) (h4 : mR (wN (wR w b1 4 (some b0)) 6 0 (mNf 6)) a0 3 = some (gR (wN (wR w b1 4 (some b0)) 6 0 (mNf 6)) a0 3)) (h5 : mE ≤ (mSz (wR w b1 4 (some b0)))) : mX (d + 1) 95 71 [.ref a0] [.ref b0, .ref b1] w = mThen (mK d 61 [.ref (mSz (wR w b1 4 (some b0))), .ref (gR (wN (wR w b1 4 (some b0)) 6 0 (mNf 6)) a0 1), .ref (gR (wN (wR w b1 4 (some b0)) 6 0 (mNf 6)) a0 3)] (wN (wR w b1 4 (some b0)) 6 0 (mNf 6))) (fun v w9 => mX (d + 1) 95 90 [.ref a0] (v.toList ++ [.ref (mSz (wR w b1 4 (some b0))), .ref a0]) w9) := by
  refine Eq.trans (X_putR f_95_71 h0 h1 rfl) ?_
  refine Eq.trans (X_st f_95_74 rfl rfl) ?_
  refine Eq.trans (X_new f_95_75 (Nat.le_of_ble_eq_true rfl)) ?_
  refine Eq.trans (X_dup f_95_78 rfl) ?_
  refine Eq.trans (X_st f_95_79 rfl rfl) ?_
  refine Eq.trans (X_getR f_95_80 h2 rfl h3) ?_
  refine Eq.trans (X_st f_95_83 rfl rfl) ?_
  refine Eq.trans (X_getR f_95_84 h2 rfl h4) ?_
  refine Eq.trans (X_call f_95_87 (by decide) rfl rfl rfl rfl rfl rfl (Nat.le_of_ble_eq_true rfl) (Nat.le_of_ble_eq_true rfl) (decide_eq_true h5) (Nat.le_of_ble_eq_true rfl)) ?_
  exact mThen_eq fun v w9 => mX_mask rfl
theorem b_95_90 {d : Nat} {a0 : Nat} {b0 : Nat} {b1 : Nat} {w : MW} (h0 : mTg w b1 = 9) (h1 : mE ≤ b1) (h2 : mTg (wN (wR w b1 5 (some b0)) 0 0 (mNf 0)) a0 = 9) (h3 : mR (wN (wR w b1 5 (some b0)) 0 0 (mNf 0)) a0 2 = some (gR (wN (wR w b1 5 (some b0)) 0 0 (mNf 0)) a0 2)) (h4 : mE ≤ (mSz (wR w b1 5 (some b0)))) : mX (d + 1) 95 90 [.ref a0] [.ref b0, .ref b1] w = mThen (mK d 0 [.ref (mSz (wR w b1 5 (some b0))), .ref (gR (wN (wR w b1 5 (some b0)) 0 0 (mNf 0)) a0 2)] (wN (wR w b1 5 (some b0)) 0 0 (mNf 0))) (fun v w9 => mX (d + 1) 95 105 [.ref a0] (v.toList ++ [.ref (mSz (wR w b1 5 (some b0))), .ref a0]) w9) := by
  refine Eq.trans (X_putR f_95_90 h0 h1 rfl) ?_
  refine Eq.trans (X_st f_95_93 rfl rfl) ?_
  refine Eq.trans (X_new f_95_94 (Nat.le_of_ble_eq_true rfl)) ?_
  refine Eq.trans (X_dup f_95_97 rfl) ?_
  refine Eq.trans (X_st f_95_98 rfl rfl) ?_
  refine Eq.trans (X_getR f_95_99 h2 rfl h3) ?_
  refine Eq.trans (X_call f_95_102 (by decide) rfl rfl rfl rfl rfl rfl (Nat.le_of_ble_eq_true rfl) (Nat.le_of_ble_eq_true rfl) (decide_eq_true h4) (Nat.le_of_ble_eq_true rfl)) ?_
  exact mThen_eq fun v w9 => mX_mask rfl
theorem b_95_105 {d : Nat} {a0 : Nat} {b0 : Nat} {b1 : Nat} {w : MW} (h0 : mTg w b1 = 9) (h1 : mE ≤ b1) (h2 : mTg (wN (wR w b1 6 (some b0)) 0 0 (mNf 0)) a0 = 9) (h3 : mR (wN (wR w b1 6 (some b0)) 0 0 (mNf 0)) a0 2 = some (gR (wN (wR w b1 6 (some b0)) 0 0 (mNf 0)) a0 2)) (h4 : mE ≤ (mSz (wR w b1 6 (some b0)))) : mX (d + 1) 95 105 [.ref a0] [.ref b0, .ref b1] w = mThen (mK d 0 [.ref (mSz (wR w b1 6 (some b0))), .ref (gR (wN (wR w b1 6 (some b0)) 0 0 (mNf 0)) a0 2)] (wN (wR w b1 6 (some b0)) 0 0 (mNf 0))) (fun v w9 => mX (d + 1) 95 120 [.ref a0] (v.toList ++ [.ref (mSz (wR w b1 6 (some b0))), .ref a0]) w9) := by
  refine Eq.trans (X_putR f_95_105 h0 h1 rfl) ?_
  refine Eq.trans (X_st f_95_108 rfl rfl) ?_
  refine Eq.trans (X_new f_95_109 (Nat.le_of_ble_eq_true rfl)) ?_
  refine Eq.trans (X_dup f_95_112 rfl) ?_
  refine Eq.trans (X_st f_95_113 rfl rfl) ?_
  refine Eq.trans (X_getR f_95_114 h2 rfl h3) ?_
  refine Eq.trans (X_call f_95_117 (by decide) rfl rfl rfl rfl rfl rfl (Nat.le_of_ble_eq_true rfl) (Nat.le_of_ble_eq_true rfl) (decide_eq_true h4) (Nat.le_of_ble_eq_true rfl)) ?_
  exact mThen_eq fun v w9 => mX_mask rfl
theorem b_95_120 {d : Nat} {a0 : Nat} {b0 : Nat} {b1 : Nat} {w : MW} (h0 : mTg w b1 = 9) (h1 : mE ≤ b1) (h2 : mTg (wR w b1 7 (some b0)) a0 = 9) (h3 : mE ≤ a0) : mX d 95 120 [.ref a0] [.ref b0, .ref b1] w = some (.inl none, wI (wR w b1 7 (some b0)) a0 8 (-1 : Int32)) := by
  refine Eq.trans (X_putR f_95_120 h0 h1 rfl) ?_
  refine Eq.trans (X_st f_95_123 rfl rfl) ?_
  refine Eq.trans (X_iconst f_95_124 kc_i_m1) ?_
  refine Eq.trans (X_putI f_95_125 h2 h3 rfl rfl) ?_
  exact X_ret f_95_128 rfl rfl
/-! BeeTurnpike feed (IIIII)I -/
theorem f_96_0 : mFetch 96 0 = some (.aload_n 0, 1, []) := by decide +kernel
theorem f_96_1 : mFetch 96 1 = some (.getfield 10, 3, [9, 0, 0, 445]) := by decide +kernel
theorem f_96_4 : mFetch 96 4 = some (.getfield 73, 3, [5, 1, 1, 96]) := by decide +kernel
theorem f_96_7 : mFetch 96 7 = some (.sipush 1980, 3, []) := by decide +kernel
theorem f_96_10 : mFetch 96 10 = some (.if_icmp .le 13, 3, [23]) := by decide +kernel
theorem f_96_23 : mFetch 96 23 = some (.aload_n 0, 1, []) := by decide +kernel
theorem f_96_24 : mFetch 96 24 = some (.getfield 10, 3, [9, 0, 0, 445]) := by decide +kernel
theorem f_96_27 : mFetch 96 27 = some (.iload_n 1, 1, []) := by decide +kernel
theorem f_96_28 : mFetch 96 28 = some (.invokevirtual 83, 3, [56, 2, 2, 5, 1009, 1010, 1011]) := by decide +kernel
theorem f_96_31 : mFetch 96 31 = some (.aload_n 0, 1, []) := by decide +kernel
theorem f_96_32 : mFetch 96 32 = some (.getfield 10, 3, [9, 0, 0, 445]) := by decide +kernel
theorem f_96_35 : mFetch 96 35 = some (.iload_n 2, 1, []) := by decide +kernel
theorem f_96_36 : mFetch 96 36 = some (.invokevirtual 83, 3, [56, 2, 2, 5, 1009, 1010, 1011]) := by decide +kernel
theorem f_96_39 : mFetch 96 39 = some (.aload_n 0, 1, []) := by decide +kernel
theorem f_96_40 : mFetch 96 40 = some (.getfield 10, 3, [9, 0, 0, 445]) := by decide +kernel
theorem f_96_43 : mFetch 96 43 = some (.iload_n 3, 1, []) := by decide +kernel
theorem f_96_44 : mFetch 96 44 = some (.invokevirtual 83, 3, [56, 2, 2, 5, 1009, 1010, 1011]) := by decide +kernel
theorem f_96_47 : mFetch 96 47 = some (.aload_n 0, 1, []) := by decide +kernel
theorem f_96_48 : mFetch 96 48 = some (.getfield 10, 3, [9, 0, 0, 445]) := by decide +kernel
theorem f_96_51 : mFetch 96 51 = some (.iload 4, 2, []) := by decide +kernel
theorem f_96_53 : mFetch 96 53 = some (.invokevirtual 83, 3, [56, 2, 2, 5, 1009, 1010, 1011]) := by decide +kernel
theorem f_96_56 : mFetch 96 56 = some (.aload_n 0, 1, []) := by decide +kernel
theorem f_96_57 : mFetch 96 57 = some (.getfield 10, 3, [9, 0, 0, 445]) := by decide +kernel
theorem f_96_60 : mFetch 96 60 = some (.iload 5, 2, []) := by decide +kernel
theorem f_96_62 : mFetch 96 62 = some (.invokevirtual 83, 3, [56, 2, 2, 5, 1009, 1010, 1011]) := by decide +kernel
theorem f_96_65 : mFetch 96 65 = some (.aload_n 0, 1, []) := by decide +kernel
theorem f_96_66 : mFetch 96 66 = some (.getfield 10, 3, [9, 0, 0, 445]) := by decide +kernel
theorem f_96_69 : mFetch 96 69 = some (.getfield 73, 3, [5, 1, 1, 96]) := by decide +kernel
theorem f_96_72 : mFetch 96 72 = some (.ireturn, 1, [0]) := by decide +kernel
theorem b_96_0 {d : Nat} {a0 : Nat} {x1 : Int32} {x2 : Int32} {x3 : Int32} {x4 : Int32} {x5 : Int32} {w : MW} (h0 : mTg w a0 = 9) (h1 : mR w a0 0 = some (gR w a0 0)) (h2 : mTg w (gR w a0 0) = 5) : mX d 96 0 [.ref a0, .int x1, .int x2, .int x3, .int x4, .int x5] [] w = (if (mI w (gR w a0 0) 1) ≤ (nI 1980) then mX d 96 23 [.ref a0, .int x1, .int x2, .int x3, .int x4, .int x5] [] w else mX d 96 13 [mJ, mJ, mJ, mJ, mJ, mJ] [] w) := by
  refine Eq.trans (X_st f_96_0 rfl rfl) ?_
  refine Eq.trans (X_getR f_96_1 h0 rfl h1) ?_
  refine Eq.trans (X_getI f_96_4 h2 rfl) ?_
  refine Eq.trans (X_sipush f_96_7 kc_s_1980) ?_
  refine Eq.trans (X_br f_96_10 rfl rfl) ?_
  exact mIte_eq (mX_mask rfl) (mX_mask rfl)
theorem e_96 {d : Nat} {a0 : Nat} {x1 : Int32} {x2 : Int32} {x3 : Int32} {x4 : Int32} {x5 : Int32} {w : MW} : mK d 96 [.ref a0, .int x1, .int x2, .int x3, .int x4, .int x5] w = mX d 96 0 [.ref a0, .int x1, .int x2, .int x3, .int x4, .int x5] [] w := rfl
theorem b_96_23 {d : Nat} {a0 : Nat} {x1 : Int32} {x2 : Int32} {x3 : Int32} {x4 : Int32} {x5 : Int32} {w : MW} (h0 : mTg w a0 = 9) (h1 : mR w a0 0 = some (gR w a0 0)) (h2 : mTg w (gR w a0 0) = 5) : mX (d + 1) 96 23 [.ref a0, .int x1, .int x2, .int x3, .int x4, .int x5] [] w = mThen (mK d 56 [.ref (gR w a0 0), .int x1] w) (fun v w9 => mX (d + 1) 96 31 [.ref a0, mJ, .int x2, .int x3, .int x4, .int x5] (v.toList ++ []) w9) := by
  refine Eq.trans (X_st f_96_23 rfl rfl) ?_
  refine Eq.trans (X_getR f_96_24 h0 rfl h1) ?_
  refine Eq.trans (X_st f_96_27 rfl rfl) ?_
  refine Eq.trans (X_call f_96_28 (by decide) rfl rfl rfl rfl rfl rfl (Nat.le_of_ble_eq_true rfl) (Nat.le_of_ble_eq_true rfl) (decide_eq_true h2) (Nat.le_of_ble_eq_true rfl)) ?_
  exact mThen_eq fun v w9 => mX_mask rfl
theorem b_96_31 {d : Nat} {a0 : Nat} {x2 : Int32} {x3 : Int32} {x4 : Int32} {x5 : Int32} {w : MW} (h0 : mTg w a0 = 9) (h1 : mR w a0 0 = some (gR w a0 0)) (h2 : mTg w (gR w a0 0) = 5) : mX (d + 1) 96 31 [.ref a0, mJ, .int x2, .int x3, .int x4, .int x5] [] w = mThen (mK d 56 [.ref (gR w a0 0), .int x2] w) (fun v w9 => mX (d + 1) 96 39 [.ref a0, mJ, mJ, .int x3, .int x4, .int x5] (v.toList ++ []) w9) := by
  refine Eq.trans (X_st f_96_31 rfl rfl) ?_
  refine Eq.trans (X_getR f_96_32 h0 rfl h1) ?_
  refine Eq.trans (X_st f_96_35 rfl rfl) ?_
  refine Eq.trans (X_call f_96_36 (by decide) rfl rfl rfl rfl rfl rfl (Nat.le_of_ble_eq_true rfl) (Nat.le_of_ble_eq_true rfl) (decide_eq_true h2) (Nat.le_of_ble_eq_true rfl)) ?_
  exact mThen_eq fun v w9 => mX_mask rfl
theorem b_96_39 {d : Nat} {a0 : Nat} {x3 : Int32} {x4 : Int32} {x5 : Int32} {w : MW} (h0 : mTg w a0 = 9) (h1 : mR w a0 0 = some (gR w a0 0)) (h2 : mTg w (gR w a0 0) = 5) : mX (d + 1) 96 39 [.ref a0, mJ, mJ, .int x3, .int x4, .int x5] [] w = mThen (mK d 56 [.ref (gR w a0 0), .int x3] w) (fun v w9 => mX (d + 1) 96 47 [.ref a0, mJ, mJ, mJ, .int x4, .int x5] (v.toList ++ []) w9) := by
  refine Eq.trans (X_st f_96_39 rfl rfl) ?_
  refine Eq.trans (X_getR f_96_40 h0 rfl h1) ?_
  refine Eq.trans (X_st f_96_43 rfl rfl) ?_
  refine Eq.trans (X_call f_96_44 (by decide) rfl rfl rfl rfl rfl rfl (Nat.le_of_ble_eq_true rfl) (Nat.le_of_ble_eq_true rfl) (decide_eq_true h2) (Nat.le_of_ble_eq_true rfl)) ?_
  exact mThen_eq fun v w9 => mX_mask rfl
theorem b_96_47 {d : Nat} {a0 : Nat} {x4 : Int32} {x5 : Int32} {w : MW} (h0 : mTg w a0 = 9) (h1 : mR w a0 0 = some (gR w a0 0)) (h2 : mTg w (gR w a0 0) = 5) : mX (d + 1) 96 47 [.ref a0, mJ, mJ, mJ, .int x4, .int x5] [] w = mThen (mK d 56 [.ref (gR w a0 0), .int x4] w) (fun v w9 => mX (d + 1) 96 56 [.ref a0, mJ, mJ, mJ, mJ, .int x5] (v.toList ++ []) w9) := by
  refine Eq.trans (X_st f_96_47 rfl rfl) ?_
  refine Eq.trans (X_getR f_96_48 h0 rfl h1) ?_
  refine Eq.trans (X_st f_96_51 rfl rfl) ?_
  refine Eq.trans (X_call f_96_53 (by decide) rfl rfl rfl rfl rfl rfl (Nat.le_of_ble_eq_true rfl) (Nat.le_of_ble_eq_true rfl) (decide_eq_true h2) (Nat.le_of_ble_eq_true rfl)) ?_
  exact mThen_eq fun v w9 => mX_mask rfl
theorem b_96_56 {d : Nat} {a0 : Nat} {x5 : Int32} {w : MW} (h0 : mTg w a0 = 9) (h1 : mR w a0 0 = some (gR w a0 0)) (h2 : mTg w (gR w a0 0) = 5) : mX (d + 1) 96 56 [.ref a0, mJ, mJ, mJ, mJ, .int x5] [] w = mThen (mK d 56 [.ref (gR w a0 0), .int x5] w) (fun v w9 => mX (d + 1) 96 65 [.ref a0, mJ, mJ, mJ, mJ, mJ] (v.toList ++ []) w9) := by
  refine Eq.trans (X_st f_96_56 rfl rfl) ?_
  refine Eq.trans (X_getR f_96_57 h0 rfl h1) ?_
  refine Eq.trans (X_st f_96_60 rfl rfl) ?_
  refine Eq.trans (X_call f_96_62 (by decide) rfl rfl rfl rfl rfl rfl (Nat.le_of_ble_eq_true rfl) (Nat.le_of_ble_eq_true rfl) (decide_eq_true h2) (Nat.le_of_ble_eq_true rfl)) ?_
  exact mThen_eq fun v w9 => mX_mask rfl
theorem b_96_65 {d : Nat} {a0 : Nat} {w : MW} (h0 : mTg w a0 = 9) (h1 : mR w a0 0 = some (gR w a0 0)) (h2 : mTg w (gR w a0 0) = 5) : mX d 96 65 [.ref a0, mJ, mJ, mJ, mJ, mJ] [] w = some (.inl (some (.int (mI w (gR w a0 0) 1))), w) := by
  refine Eq.trans (X_st f_96_65 rfl rfl) ?_
  refine Eq.trans (X_getR f_96_66 h0 rfl h1) ?_
  refine Eq.trans (X_getI f_96_69 h2 rfl) ?_
  exact X_ireturn f_96_72 rfl
/-! BeeTurnpike trim (I)I -/
theorem f_97_0 : mFetch 97 0 = some (.iload_n 1, 1, []) := by decide +kernel
theorem f_97_1 : mFetch 97 1 = some (.ifCond .lt 14, 3, [15]) := by decide +kernel
theorem f_97_4 : mFetch 97 4 = some (.iload_n 1, 1, []) := by decide +kernel
theorem f_97_5 : mFetch 97 5 = some (.aload_n 0, 1, []) := by decide +kernel
theorem f_97_6 : mFetch 97 6 = some (.getfield 10, 3, [9, 0, 0, 445]) := by decide +kernel
theorem f_97_9 : mFetch 97 9 = some (.getfield 73, 3, [5, 1, 1, 96]) := by decide +kernel
theorem f_97_12 : mFetch 97 12 = some (.if_icmp .le 13, 3, [25]) := by decide +kernel
theorem f_97_25 : mFetch 97 25 = some (.aload_n 0, 1, []) := by decide +kernel
theorem f_97_26 : mFetch 97 26 = some (.getfield 10, 3, [9, 0, 0, 445]) := by decide +kernel
theorem f_97_29 : mFetch 97 29 = some (.iload_n 1, 1, []) := by decide +kernel
theorem f_97_30 : mFetch 97 30 = some (.putfield 73, 3, [5, 1, 1, 96]) := by decide +kernel
theorem f_97_33 : mFetch 97 33 = some (.iload_n 1, 1, []) := by decide +kernel
theorem f_97_34 : mFetch 97 34 = some (.ireturn, 1, [0]) := by decide +kernel
theorem b_97_0 {d : Nat} {a0 : Nat} {x1 : Int32} {w : MW} : mX d 97 0 [.ref a0, .int x1] [] w = (if x1 < nI 0 then mX d 97 15 [mJ, mJ] [] w else mX d 97 4 [.ref a0, .int x1] [] w) := by
  refine Eq.trans (X_st f_97_0 rfl rfl) ?_
  refine Eq.trans (X_br f_97_1 rfl rfl) ?_
  exact mIte_eq (mX_mask rfl) (mX_mask rfl)
theorem e_97 {d : Nat} {a0 : Nat} {x1 : Int32} {w : MW} : mK d 97 [.ref a0, .int x1] w = mX d 97 0 [.ref a0, .int x1] [] w := rfl
theorem b_97_4 {d : Nat} {a0 : Nat} {x1 : Int32} {w : MW} (h0 : mTg w a0 = 9) (h1 : mR w a0 0 = some (gR w a0 0)) (h2 : mTg w (gR w a0 0) = 5) : mX d 97 4 [.ref a0, .int x1] [] w = (if x1 ≤ (mI w (gR w a0 0) 1) then mX d 97 25 [.ref a0, .int x1] [] w else mX d 97 15 [mJ, mJ] [] w) := by
  refine Eq.trans (X_st f_97_4 rfl rfl) ?_
  refine Eq.trans (X_st f_97_5 rfl rfl) ?_
  refine Eq.trans (X_getR f_97_6 h0 rfl h1) ?_
  refine Eq.trans (X_getI f_97_9 h2 rfl) ?_
  refine Eq.trans (X_br f_97_12 rfl rfl) ?_
  exact mIte_eq (mX_mask rfl) (mX_mask rfl)
theorem b_97_25 {d : Nat} {a0 : Nat} {x1 : Int32} {w : MW} (h0 : mTg w a0 = 9) (h1 : mR w a0 0 = some (gR w a0 0)) (h2 : mTg w (gR w a0 0) = 5) (h3 : mE ≤ (gR w a0 0)) : mX d 97 25 [.ref a0, .int x1] [] w = some (.inl (some (.int x1)), wI w (gR w a0 0) 1 x1) := by
  refine Eq.trans (X_st f_97_25 rfl rfl) ?_
  refine Eq.trans (X_getR f_97_26 h0 rfl h1) ?_
  refine Eq.trans (X_st f_97_29 rfl rfl) ?_
  refine Eq.trans (X_putI f_97_30 h2 h3 rfl rfl) ?_
  refine Eq.trans (X_st f_97_33 rfl rfl) ?_
  exact X_ireturn f_97_34 rfl
/-! BeeTurnpike teach ()I -/
theorem f_98_0 : mFetch 98 0 = some (.aload_n 0, 1, []) := by decide +kernel
theorem f_98_1 : mFetch 98 1 = some (.getfield 21, 3, [9, 1, 0, 446]) := by decide +kernel
theorem f_98_4 : mFetch 98 4 = some (.invokevirtual 92, 3, [73, 1, 2, 7, 1023, 1024, 1025]) := by decide +kernel
theorem f_98_7 : mFetch 98 7 = some (.iconst 1, 1, []) := by decide +kernel
theorem f_98_8 : mFetch 98 8 = some (.istore_n 1, 1, []) := by decide +kernel
theorem f_98_9 : mFetch 98 9 = some (.aload_n 0, 1, []) := by decide +kernel
theorem f_98_10 : mFetch 98 10 = some (.getfield 44, 3, [9, 4, 0, 449]) := by decide +kernel
theorem f_98_13 : mFetch 98 13 = some (.invokevirtual 95, 3, [34, 1, 2, 2, 1170, 1171, 1172]) := by decide +kernel
theorem f_98_16 : mFetch 98 16 = some (.istore_n 2, 1, []) := by decide +kernel
theorem f_98_17 : mFetch 98 17 = some (.iload_n 2, 1, []) := by decide +kernel
theorem f_98_18 : mFetch 98 18 = some (.ifCond .ge 19, 3, [37]) := by decide +kernel
theorem f_98_21 : mFetch 98 21 = some (.aload_n 0, 1, []) := by decide +kernel
theorem f_98_22 : mFetch 98 22 = some (.getfield 53, 3, [9, 5, 0, 450]) := by decide +kernel
theorem f_98_25 : mFetch 98 25 = some (.invokevirtual 99, 3, [62, 1, 2, 6, 1230, 1231, 1232]) := by decide +kernel
theorem f_98_28 : mFetch 98 28 = some (.istore_n 1, 1, []) := by decide +kernel
theorem f_98_29 : mFetch 98 29 = some (.aload_n 0, 1, []) := by decide +kernel
theorem f_98_30 : mFetch 98 30 = some (.getfield 53, 3, [9, 5, 0, 450]) := by decide +kernel
theorem f_98_33 : mFetch 98 33 = some (.getfield 100, 3, [6, 4, 1, 97]) := by decide +kernel
theorem f_98_36 : mFetch 98 36 = some (.istore_n 2, 1, []) := by decide +kernel
theorem f_98_37 : mFetch 98 37 = some (.aload_n 0, 1, []) := by decide +kernel
theorem f_98_38 : mFetch 98 38 = some (.iload_n 1, 1, []) := by decide +kernel
theorem f_98_39 : mFetch 98 39 = some (.ifCond .ne 7, 3, [46]) := by decide +kernel
theorem f_98_42 : mFetch 98 42 = some (.iconst (-1), 1, []) := by decide +kernel
theorem f_98_43 : mFetch 98 43 = some (.goto 14, 3, [57]) := by decide +kernel
theorem f_98_46 : mFetch 98 46 = some (.aload_n 0, 1, []) := by decide +kernel
theorem f_98_47 : mFetch 98 47 = some (.getfield 21, 3, [9, 1, 0, 446]) := by decide +kernel
theorem f_98_50 : mFetch 98 50 = some (.getfield 103, 3, [7, 2, 1, 98]) := by decide +kernel
theorem f_98_53 : mFetch 98 53 = some (.iload_n 2, 1, []) := by decide +kernel
theorem f_98_54 : mFetch 98 54 = some (.invokestatic 107, 3, [123, 2, 0, 0, 592, 559]) := by decide +kernel
theorem f_98_57 : mFetch 98 57 = some (.putfield 69, 3, [9, 8, 0, 453]) := by decide +kernel
theorem f_98_60 : mFetch 98 60 = some (.aload_n 0, 1, []) := by decide +kernel
theorem f_98_61 : mFetch 98 61 = some (.getfield 10, 3, [9, 0, 0, 445]) := by decide +kernel
theorem f_98_64 : mFetch 98 64 = some (.iconst 0, 1, []) := by decide +kernel
theorem f_98_65 : mFetch 98 65 = some (.putfield 73, 3, [5, 1, 1, 96]) := by decide +kernel
theorem f_98_68 : mFetch 98 68 = some (.iload_n 1, 1, []) := by decide +kernel
theorem f_98_69 : mFetch 98 69 = some (.ifCond .ne 21, 3, [90]) := by decide +kernel
theorem f_98_72 : mFetch 98 72 = some (.aload_n 0, 1, []) := by decide +kernel
theorem f_98_73 : mFetch 98 73 = some (.getfield 28, 3, [9, 2, 0, 447]) := by decide +kernel
theorem f_98_76 : mFetch 98 76 = some (.aload_n 0, 1, []) := by decide +kernel
theorem f_98_77 : mFetch 98 77 = some (.getfield 32, 3, [9, 3, 0, 448]) := by decide +kernel
theorem f_98_80 : mFetch 98 80 = some (.invokevirtual 111, 3, [94, 2, 2, 8, 1295, 1296, 1297]) := by decide +kernel
theorem f_98_83 : mFetch 98 83 = some (.aload_n 0, 1, []) := by decide +kernel
theorem f_98_84 : mFetch 98 84 = some (.getfield 62, 3, [9, 6, 0, 451]) := by decide +kernel
theorem f_98_87 : mFetch 98 87 = some (.invokevirtual 114, 3, [2, 1, 2, 0, 1305, 1306, 1307]) := by decide +kernel
theorem f_98_90 : mFetch 98 90 = some (.iload_n 1, 1, []) := by decide +kernel
theorem f_98_91 : mFetch 98 91 = some (.ireturn, 1, [0]) := by decide +kernel
theorem b_98_0 {d : Nat} {a0 : Nat} {w : MW} (h0 : mTg w a0 = 9) (h1 : mR w a0 1 = some (gR w a0 1)) (h2 : mTg w (gR w a0 1) = 7) : mX (d + 1) 98 0 [.ref a0, mJ, mJ] [] w = mThen (mK d 73 [.ref (gR w a0 1)] w) (fun v w9 => mX (d + 1) 98 7 [.ref a0, mJ, mJ] (v.toList ++ []) w9) := by
  refine Eq.trans (X_st f_98_0 rfl rfl) ?_
  refine Eq.trans (X_getR f_98_1 h0 rfl h1) ?_
  refine Eq.trans (X_call f_98_4 (by decide) rfl rfl rfl rfl rfl rfl (Nat.le_of_ble_eq_true rfl) (Nat.le_of_ble_eq_true rfl) (decide_eq_true h2) (Nat.le_of_ble_eq_true rfl)) ?_
  exact mThen_eq fun v w9 => mX_mask rfl
theorem e_98 {d : Nat} {a0 : Nat} {w : MW} : mK d 98 [.ref a0] w = mX d 98 0 [.ref a0, mJ, mJ] [] w := rfl
theorem b_98_7 {d : Nat} {a0 : Nat} {w : MW} (h0 : mTg w a0 = 9) (h1 : mR w a0 4 = some (gR w a0 4)) (h2 : mTg w (gR w a0 4) = 2) : mX (d + 1) 98 7 [.ref a0, mJ, mJ] [] w = mThen (mK d 34 [.ref (gR w a0 4)] w) (fun v w9 => mX (d + 1) 98 16 [.ref a0, .int (nI 1), mJ] (v.toList ++ []) w9) := by
  refine Eq.trans (X_iconst f_98_7 kc_i_1) ?_
  refine Eq.trans (X_istore_n (L' := [.ref a0, .int (nI 1), mJ]) f_98_8 (Nat.le_of_ble_eq_true rfl) rfl) ?_
  refine Eq.trans (X_st f_98_9 rfl rfl) ?_
  refine Eq.trans (X_getR f_98_10 h0 rfl h1) ?_
  refine Eq.trans (X_call f_98_13 (by decide) rfl rfl rfl rfl rfl rfl (Nat.le_of_ble_eq_true rfl) (Nat.le_of_ble_eq_true rfl) (decide_eq_true h2) (Nat.le_of_ble_eq_true rfl)) ?_
  exact mThen_eq fun v w9 => mX_mask rfl
theorem b_98_16 {d : Nat} {a0 : Nat} {x1 : Int32} {y0 : Int32} {w : MW} : mX d 98 16 [.ref a0, .int x1, mJ] [.int y0] w = (if nI 0 ≤ y0 then mX d 98 37 [.ref a0, .int x1, .int y0] [] w else mX d 98 21 [.ref a0, mJ, mJ] [] w) := by
  refine Eq.trans (X_istore_n (L' := [.ref a0, .int x1, .int y0]) f_98_16 (Nat.le_of_ble_eq_true rfl) rfl) ?_
  refine Eq.trans (X_st f_98_17 rfl rfl) ?_
  refine Eq.trans (X_br f_98_18 rfl rfl) ?_
  exact mIte_eq (mX_mask rfl) (mX_mask rfl)
theorem b_98_21 {d : Nat} {a0 : Nat} {w : MW} (h0 : mTg w a0 = 9) (h1 : mR w a0 5 = some (gR w a0 5)) (h2 : mTg w (gR w a0 5) = 6) : mX (d + 1) 98 21 [.ref a0, mJ, mJ] [] w = mThen (mK d 62 [.ref (gR w a0 5)] w) (fun v w9 => mX (d + 1) 98 28 [.ref a0, mJ, mJ] (v.toList ++ []) w9) := by
  refine Eq.trans (X_st f_98_21 rfl rfl) ?_
  refine Eq.trans (X_getR f_98_22 h0 rfl h1) ?_
  refine Eq.trans (X_call f_98_25 (by decide) rfl rfl rfl rfl rfl rfl (Nat.le_of_ble_eq_true rfl) (Nat.le_of_ble_eq_true rfl) (decide_eq_true h2) (Nat.le_of_ble_eq_true rfl)) ?_
  exact mThen_eq fun v w9 => mX_mask rfl
theorem b_98_28 {d : Nat} {a0 : Nat} {y0 : Int32} {w : MW} (h0 : mTg w a0 = 9) (h1 : mR w a0 5 = some (gR w a0 5)) (h2 : mTg w (gR w a0 5) = 6) : mX d 98 28 [.ref a0, mJ, mJ] [.int y0] w = mX d 98 37 [.ref a0, .int y0, .int (mI w (gR w a0 5) 4)] [] w := by
  refine Eq.trans (X_istore_n (L' := [.ref a0, .int y0, mJ]) f_98_28 (Nat.le_of_ble_eq_true rfl) rfl) ?_
  refine Eq.trans (X_st f_98_29 rfl rfl) ?_
  refine Eq.trans (X_getR f_98_30 h0 rfl h1) ?_
  refine Eq.trans (X_getI f_98_33 h2 rfl) ?_
  refine Eq.trans (X_istore_n (L' := [.ref a0, .int y0, .int (mI w (gR w a0 5) 4)]) f_98_36 (Nat.le_of_ble_eq_true rfl) rfl) ?_
  exact mX_mask rfl
theorem b_98_37 {d : Nat} {a0 : Nat} {x1 : Int32} {x2 : Int32} {w : MW} : mX d 98 37 [.ref a0, .int x1, .int x2] [] w = (if ¬ x1 = nI 0 then mX d 98 46 [.ref a0, .int x1, .int x2] [.ref a0] w else mX d 98 42 [.ref a0, .int x1, mJ] [.ref a0] w) := by
  refine Eq.trans (X_st f_98_37 rfl rfl) ?_
  refine Eq.trans (X_st f_98_38 rfl rfl) ?_
  refine Eq.trans (X_br f_98_39 rfl rfl) ?_
  exact mIte_eq (mX_mask rfl) (mX_mask rfl)
theorem b_98_42 {d : Nat} {a0 : Nat} {x1 : Int32} {b0 : Nat} {w : MW} : mX d 98 42 [.ref a0, .int x1, mJ] [.ref b0] w = mX d 98 57 [.ref a0, .int x1, mJ] [.int (-1 : Int32), .ref b0] w := by
  refine Eq.trans (X_iconst f_98_42 kc_i_m1) ?_
  refine Eq.trans (X_st f_98_43 rfl rfl) ?_
  exact mX_mask rfl
theorem b_98_46 {d : Nat} {a0 : Nat} {x1 : Int32} {x2 : Int32} {b0 : Nat} {w : MW} (h0 : mTg w a0 = 9) (h1 : mR w a0 1 = some (gR w a0 1)) (h2 : mTg w (gR w a0 1) = 7) (h3 : mR w (gR w a0 1) 2 = some (gR w (gR w a0 1) 2)) : mX (d + 1) 98 46 [.ref a0, .int x1, .int x2] [.ref b0] w = mThen (mK d 123 [.ref (gR w (gR w a0 1) 2), .int x2] w) (fun v w9 => mX (d + 1) 98 57 [.ref a0, .int x1, mJ] (v.toList ++ [.ref b0]) w9) := by
  refine Eq.trans (X_st f_98_46 rfl rfl) ?_
  refine Eq.trans (X_getR f_98_47 h0 rfl h1) ?_
  refine Eq.trans (X_getR f_98_50 h2 rfl h3) ?_
  refine Eq.trans (X_st f_98_53 rfl rfl) ?_
  refine Eq.trans (X_call f_98_54 (by decide) rfl rfl rfl rfl rfl rfl (Nat.le_of_ble_eq_true rfl) (Nat.le_of_ble_eq_true rfl) rfl (Nat.le_of_ble_eq_true rfl)) ?_
  exact mThen_eq fun v w9 => mX_mask rfl
theorem b_98_57 {d : Nat} {a0 : Nat} {x1 : Int32} {y0 : Int32} {b1 : Nat} {w : MW} (h0 : mTg w b1 = 9) (h1 : mE ≤ b1) (h2 : mTg (wI w b1 8 y0) a0 = 9) (h3 : mR (wI w b1 8 y0) a0 0 = some (gR (wI w b1 8 y0) a0 0)) (h4 : mTg (wI w b1 8 y0) (gR (wI w b1 8 y0) a0 0) = 5) (h5 : mE ≤ (gR (wI w b1 8 y0) a0 0)) : mX d 98 57 [.ref a0, .int x1, mJ] [.int y0, .ref b1] w = (if ¬ x1 = nI 0 then mX d 98 90 [mJ, .int x1, mJ] [] (wI (wI w b1 8 y0) (gR (wI w b1 8 y0) a0 0) 1 (nI 0)) else mX d 98 72 [.ref a0, .int x1, mJ] [] (wI (wI w b1 8 y0) (gR (wI w b1 8 y0) a0 0) 1 (nI 0))) := by
  refine Eq.trans (X_putI f_98_57 h0 h1 rfl rfl) ?_
  refine Eq.trans (X_st f_98_60 rfl rfl) ?_
  refine Eq.trans (X_getR f_98_61 h2 rfl h3) ?_
  refine Eq.trans (X_iconst f_98_64 kc_i_0) ?_
  refine Eq.trans (X_putI f_98_65 h4 h5 rfl rfl) ?_
  refine Eq.trans (X_st f_98_68 rfl rfl) ?_
  refine Eq.trans (X_br f_98_69 rfl rfl) ?_
  exact mIte_eq (mX_mask rfl) (mX_mask rfl)
theorem b_98_72 {d : Nat} {a0 : Nat} {x1 : Int32} {w : MW} (h0 : mTg w a0 = 9) (h1 : mR w a0 2 = some (gR w a0 2)) (h2 : mR w a0 3 = some (gR w a0 3)) (h3 : mTg w (gR w a0 2) = 8) : mX (d + 1) 98 72 [.ref a0, .int x1, mJ] [] w = mThen (mK d 94 [.ref (gR w a0 2), .ref (gR w a0 3)] w) (fun v w9 => mX (d + 1) 98 83 [.ref a0, .int x1, mJ] (v.toList ++ []) w9) := by
  refine Eq.trans (X_st f_98_72 rfl rfl) ?_
  refine Eq.trans (X_getR f_98_73 h0 rfl h1) ?_
  refine Eq.trans (X_st f_98_76 rfl rfl) ?_
  refine Eq.trans (X_getR f_98_77 h0 rfl h2) ?_
  refine Eq.trans (X_call f_98_80 (by decide) rfl rfl rfl rfl rfl rfl (Nat.le_of_ble_eq_true rfl) (Nat.le_of_ble_eq_true rfl) (decide_eq_true h3) (Nat.le_of_ble_eq_true rfl)) ?_
  exact mThen_eq fun v w9 => mX_mask rfl
theorem b_98_83 {d : Nat} {a0 : Nat} {x1 : Int32} {w : MW} (h0 : mTg w a0 = 9) (h1 : mR w a0 6 = some (gR w a0 6)) (h2 : mTg w (gR w a0 6) = 0) : mX (d + 1) 98 83 [.ref a0, .int x1, mJ] [] w = mThen (mK d 2 [.ref (gR w a0 6)] w) (fun v w9 => mX (d + 1) 98 90 [mJ, .int x1, mJ] (v.toList ++ []) w9) := by
  refine Eq.trans (X_st f_98_83 rfl rfl) ?_
  refine Eq.trans (X_getR f_98_84 h0 rfl h1) ?_
  refine Eq.trans (X_call f_98_87 (by decide) rfl rfl rfl rfl rfl rfl (Nat.le_of_ble_eq_true rfl) (Nat.le_of_ble_eq_true rfl) (decide_eq_true h2) (Nat.le_of_ble_eq_true rfl)) ?_
  exact mThen_eq fun v w9 => mX_mask rfl
theorem b_98_90 {d : Nat} {x1 : Int32} {w : MW} : mX d 98 90 [mJ, .int x1, mJ] [] w = some (.inl (some (.int x1)), w) := by
  refine Eq.trans (X_st f_98_90 rfl rfl) ?_
  exact X_ireturn f_98_91 rfl
/-! BeeTurnpike count (I)I -/
theorem f_99_0 : mFetch 99 0 = some (.iload_n 1, 1, []) := by decide +kernel
theorem f_99_1 : mFetch 99 1 = some (.ifCond .lt 9, 3, [10]) := by decide +kernel
theorem f_99_4 : mFetch 99 4 = some (.iload_n 1, 1, []) := by decide +kernel
theorem f_99_5 : mFetch 99 5 = some (.bipush 17, 2, []) := by decide +kernel
theorem f_99_7 : mFetch 99 7 = some (.if_icmp .le 13, 3, [20]) := by decide +kernel
theorem f_99_20 : mFetch 99 20 = some (.aload_n 0, 1, []) := by decide +kernel
theorem f_99_21 : mFetch 99 21 = some (.iload_n 1, 1, []) := by decide +kernel
theorem f_99_22 : mFetch 99 22 = some (.invokevirtual 122, 3, [119, 2, 2, 9, 545, 547, 5]) := by decide +kernel
theorem f_99_25 : mFetch 99 25 = some (.ireturn, 1, [0]) := by decide +kernel
theorem b_99_0 {d : Nat} {a0 : Nat} {x1 : Int32} {w : MW} : mX d 99 0 [.ref a0, .int x1] [] w = (if x1 < nI 0 then mX d 99 10 [mJ, mJ] [] w else mX d 99 4 [.ref a0, .int x1] [] w) := by
  refine Eq.trans (X_st f_99_0 rfl rfl) ?_
  refine Eq.trans (X_br f_99_1 rfl rfl) ?_
  exact mIte_eq (mX_mask rfl) (mX_mask rfl)
theorem e_99 {d : Nat} {a0 : Nat} {x1 : Int32} {w : MW} : mK d 99 [.ref a0, .int x1] w = mX d 99 0 [.ref a0, .int x1] [] w := rfl
theorem b_99_4 {d : Nat} {a0 : Nat} {x1 : Int32} {w : MW} : mX d 99 4 [.ref a0, .int x1] [] w = (if x1 ≤ (nI 17) then mX d 99 20 [.ref a0, .int x1] [] w else mX d 99 10 [mJ, mJ] [] w) := by
  refine Eq.trans (X_st f_99_4 rfl rfl) ?_
  refine Eq.trans (X_bipush f_99_5 kc_b_17) ?_
  refine Eq.trans (X_br f_99_7 rfl rfl) ?_
  exact mIte_eq (mX_mask rfl) (mX_mask rfl)
theorem b_99_20 {d : Nat} {a0 : Nat} {x1 : Int32} {w : MW} (h0 : mTg w a0 = 9) : mX (d + 1) 99 20 [.ref a0, .int x1] [] w = mThen (mK d 119 [.ref a0, .int x1] w) (fun v w9 => mX (d + 1) 99 25 [mJ, mJ] (v.toList ++ []) w9) := by
  refine Eq.trans (X_st f_99_20 rfl rfl) ?_
  refine Eq.trans (X_st f_99_21 rfl rfl) ?_
  refine Eq.trans (X_call f_99_22 (by decide) rfl rfl rfl rfl rfl rfl (Nat.le_of_ble_eq_true rfl) (Nat.le_of_ble_eq_true rfl) (decide_eq_true h0) (Nat.le_of_ble_eq_true rfl)) ?_
  exact mThen_eq fun v w9 => mX_mask rfl
theorem b_99_25 {d : Nat} {y0 : Int32} {w : MW} : mX d 99 25 [mJ, mJ] [.int y0] w = some (.inl (some (.int y0)), w) := by
  exact X_ireturn f_99_25 rfl
/-! BeeTurnpike root (II)I -/
theorem f_100_0 : mFetch 100 0 = some (.aload_n 0, 1, []) := by decide +kernel
theorem f_100_1 : mFetch 100 1 = some (.getfield 28, 3, [9, 2, 0, 447]) := by decide +kernel
theorem f_100_4 : mFetch 100 4 = some (.iconst 1, 1, []) := by decide +kernel
theorem f_100_5 : mFetch 100 5 = some (.iload_n 1, 1, []) := by decide +kernel
theorem f_100_6 : mFetch 100 6 = some (.invokevirtual 126, 3, [86, 3, 2, 8, 583, 584, 585]) := by decide +kernel
theorem f_100_9 : mFetch 100 9 = some (.ifCond .eq 12, 3, [21]) := by decide +kernel
theorem f_100_12 : mFetch 100 12 = some (.iload_n 2, 1, []) := by decide +kernel
theorem f_100_13 : mFetch 100 13 = some (.ifCond .lt 8, 3, [21]) := by decide +kernel
theorem f_100_16 : mFetch 100 16 = some (.iload_n 2, 1, []) := by decide +kernel
theorem f_100_17 : mFetch 100 17 = some (.iconst 4, 1, []) := by decide +kernel
theorem f_100_18 : mFetch 100 18 = some (.if_icmp .le 13, 3, [31]) := by decide +kernel
theorem f_100_31 : mFetch 100 31 = some (.aload_n 0, 1, []) := by decide +kernel
theorem f_100_32 : mFetch 100 32 = some (.iload_n 1, 1, []) := by decide +kernel
theorem f_100_33 : mFetch 100 33 = some (.iload_n 2, 1, []) := by decide +kernel
theorem f_100_34 : mFetch 100 34 = some (.invokevirtual 132, 3, [120, 3, 2, 9, 806, 808, 23]) := by decide +kernel
theorem f_100_37 : mFetch 100 37 = some (.ireturn, 1, [0]) := by decide +kernel
theorem b_100_0 {d : Nat} {a0 : Nat} {x1 : Int32} {x2 : Int32} {w : MW} (h0 : mTg w a0 = 9) (h1 : mR w a0 2 = some (gR w a0 2)) (h2 : mTg w (gR w a0 2) = 8) : mX (d + 1) 100 0 [.ref a0, .int x1, .int x2] [] w = mThen (mK d 86 [.ref (gR w a0 2), .int (nI 1), .int x1] w) (fun v w9 => mX (d + 1) 100 9 [.ref a0, .int x1, .int x2] (v.toList ++ []) w9) := by
  refine Eq.trans (X_st f_100_0 rfl rfl) ?_
  refine Eq.trans (X_getR f_100_1 h0 rfl h1) ?_
  refine Eq.trans (X_iconst f_100_4 kc_i_1) ?_
  refine Eq.trans (X_st f_100_5 rfl rfl) ?_
  refine Eq.trans (X_call f_100_6 (by decide) rfl rfl rfl rfl rfl rfl (Nat.le_of_ble_eq_true rfl) (Nat.le_of_ble_eq_true rfl) (decide_eq_true h2) (Nat.le_of_ble_eq_true rfl)) ?_
  exact mThen_eq fun v w9 => mX_mask rfl
theorem e_100 {d : Nat} {a0 : Nat} {x1 : Int32} {x2 : Int32} {w : MW} : mK d 100 [.ref a0, .int x1, .int x2] w = mX d 100 0 [.ref a0, .int x1, .int x2] [] w := rfl
theorem b_100_9 {d : Nat} {a0 : Nat} {x1 : Int32} {x2 : Int32} {y0 : Int32} {w : MW} : mX d 100 9 [.ref a0, .int x1, .int x2] [.int y0] w = (if y0 = nI 0 then mX d 100 21 [mJ, mJ, mJ] [] w else mX d 100 12 [.ref a0, .int x1, .int x2] [] w) := by
  refine Eq.trans (X_br f_100_9 rfl rfl) ?_
  exact mIte_eq (mX_mask rfl) (mX_mask rfl)
theorem b_100_12 {d : Nat} {a0 : Nat} {x1 : Int32} {x2 : Int32} {w : MW} : mX d 100 12 [.ref a0, .int x1, .int x2] [] w = (if x2 < nI 0 then mX d 100 21 [mJ, mJ, mJ] [] w else mX d 100 16 [.ref a0, .int x1, .int x2] [] w) := by
  refine Eq.trans (X_st f_100_12 rfl rfl) ?_
  refine Eq.trans (X_br f_100_13 rfl rfl) ?_
  exact mIte_eq (mX_mask rfl) (mX_mask rfl)
theorem b_100_16 {d : Nat} {a0 : Nat} {x1 : Int32} {x2 : Int32} {w : MW} : mX d 100 16 [.ref a0, .int x1, .int x2] [] w = (if x2 ≤ (nI 4) then mX d 100 31 [.ref a0, .int x1, .int x2] [] w else mX d 100 21 [mJ, mJ, mJ] [] w) := by
  refine Eq.trans (X_st f_100_16 rfl rfl) ?_
  refine Eq.trans (X_iconst f_100_17 kc_i_4) ?_
  refine Eq.trans (X_br f_100_18 rfl rfl) ?_
  exact mIte_eq (mX_mask rfl) (mX_mask rfl)
theorem b_100_31 {d : Nat} {a0 : Nat} {x1 : Int32} {x2 : Int32} {w : MW} (h0 : mTg w a0 = 9) : mX (d + 1) 100 31 [.ref a0, .int x1, .int x2] [] w = mThen (mK d 120 [.ref a0, .int x1, .int x2] w) (fun v w9 => mX (d + 1) 100 37 [mJ, mJ, mJ] (v.toList ++ []) w9) := by
  refine Eq.trans (X_st f_100_31 rfl rfl) ?_
  refine Eq.trans (X_st f_100_32 rfl rfl) ?_
  refine Eq.trans (X_st f_100_33 rfl rfl) ?_
  refine Eq.trans (X_call f_100_34 (by decide) rfl rfl rfl rfl rfl rfl (Nat.le_of_ble_eq_true rfl) (Nat.le_of_ble_eq_true rfl) (decide_eq_true h0) (Nat.le_of_ble_eq_true rfl)) ?_
  exact mThen_eq fun v w9 => mX_mask rfl
theorem b_100_37 {d : Nat} {y0 : Int32} {w : MW} : mX d 100 37 [mJ, mJ, mJ] [.int y0] w = some (.inl (some (.int y0)), w) := by
  exact X_ireturn f_100_37 rfl
/-! BeeTurnpike word (II)I -/
theorem f_101_0 : mFetch 101 0 = some (.aload_n 0, 1, []) := by decide +kernel
theorem f_101_1 : mFetch 101 1 = some (.getfield 28, 3, [9, 2, 0, 447]) := by decide +kernel
theorem f_101_4 : mFetch 101 4 = some (.iconst 2, 1, []) := by decide +kernel
theorem f_101_5 : mFetch 101 5 = some (.iload_n 1, 1, []) := by decide +kernel
theorem f_101_6 : mFetch 101 6 = some (.invokevirtual 126, 3, [86, 3, 2, 8, 583, 584, 585]) := by decide +kernel
theorem f_101_9 : mFetch 101 9 = some (.ifCond .eq 12, 3, [21]) := by decide +kernel
theorem f_101_12 : mFetch 101 12 = some (.iload_n 2, 1, []) := by decide +kernel
theorem f_101_13 : mFetch 101 13 = some (.ifCond .lt 8, 3, [21]) := by decide +kernel
theorem f_101_16 : mFetch 101 16 = some (.iload_n 2, 1, []) := by decide +kernel
theorem f_101_17 : mFetch 101 17 = some (.iconst 4, 1, []) := by decide +kernel
theorem f_101_18 : mFetch 101 18 = some (.if_icmp .le 13, 3, [31]) := by decide +kernel
theorem f_101_31 : mFetch 101 31 = some (.aload_n 0, 1, []) := by decide +kernel
theorem f_101_32 : mFetch 101 32 = some (.iload_n 1, 1, []) := by decide +kernel
theorem f_101_33 : mFetch 101 33 = some (.iload_n 2, 1, []) := by decide +kernel
theorem f_101_34 : mFetch 101 34 = some (.invokevirtual 138, 3, [121, 3, 2, 9, 588, 590, 6]) := by decide +kernel
theorem f_101_37 : mFetch 101 37 = some (.ireturn, 1, [0]) := by decide +kernel
theorem b_101_0 {d : Nat} {a0 : Nat} {x1 : Int32} {x2 : Int32} {w : MW} (h0 : mTg w a0 = 9) (h1 : mR w a0 2 = some (gR w a0 2)) (h2 : mTg w (gR w a0 2) = 8) : mX (d + 1) 101 0 [.ref a0, .int x1, .int x2] [] w = mThen (mK d 86 [.ref (gR w a0 2), .int (nI 2), .int x1] w) (fun v w9 => mX (d + 1) 101 9 [.ref a0, .int x1, .int x2] (v.toList ++ []) w9) := by
  refine Eq.trans (X_st f_101_0 rfl rfl) ?_
  refine Eq.trans (X_getR f_101_1 h0 rfl h1) ?_
  refine Eq.trans (X_iconst f_101_4 kc_i_2) ?_
  refine Eq.trans (X_st f_101_5 rfl rfl) ?_
  refine Eq.trans (X_call f_101_6 (by decide) rfl rfl rfl rfl rfl rfl (Nat.le_of_ble_eq_true rfl) (Nat.le_of_ble_eq_true rfl) (decide_eq_true h2) (Nat.le_of_ble_eq_true rfl)) ?_
  exact mThen_eq fun v w9 => mX_mask rfl
theorem e_101 {d : Nat} {a0 : Nat} {x1 : Int32} {x2 : Int32} {w : MW} : mK d 101 [.ref a0, .int x1, .int x2] w = mX d 101 0 [.ref a0, .int x1, .int x2] [] w := rfl
theorem b_101_9 {d : Nat} {a0 : Nat} {x1 : Int32} {x2 : Int32} {y0 : Int32} {w : MW} : mX d 101 9 [.ref a0, .int x1, .int x2] [.int y0] w = (if y0 = nI 0 then mX d 101 21 [mJ, mJ, mJ] [] w else mX d 101 12 [.ref a0, .int x1, .int x2] [] w) := by
  refine Eq.trans (X_br f_101_9 rfl rfl) ?_
  exact mIte_eq (mX_mask rfl) (mX_mask rfl)
theorem b_101_12 {d : Nat} {a0 : Nat} {x1 : Int32} {x2 : Int32} {w : MW} : mX d 101 12 [.ref a0, .int x1, .int x2] [] w = (if x2 < nI 0 then mX d 101 21 [mJ, mJ, mJ] [] w else mX d 101 16 [.ref a0, .int x1, .int x2] [] w) := by
  refine Eq.trans (X_st f_101_12 rfl rfl) ?_
  refine Eq.trans (X_br f_101_13 rfl rfl) ?_
  exact mIte_eq (mX_mask rfl) (mX_mask rfl)
theorem b_101_16 {d : Nat} {a0 : Nat} {x1 : Int32} {x2 : Int32} {w : MW} : mX d 101 16 [.ref a0, .int x1, .int x2] [] w = (if x2 ≤ (nI 4) then mX d 101 31 [.ref a0, .int x1, .int x2] [] w else mX d 101 21 [mJ, mJ, mJ] [] w) := by
  refine Eq.trans (X_st f_101_16 rfl rfl) ?_
  refine Eq.trans (X_iconst f_101_17 kc_i_4) ?_
  refine Eq.trans (X_br f_101_18 rfl rfl) ?_
  exact mIte_eq (mX_mask rfl) (mX_mask rfl)
theorem b_101_31 {d : Nat} {a0 : Nat} {x1 : Int32} {x2 : Int32} {w : MW} (h0 : mTg w a0 = 9) : mX (d + 1) 101 31 [.ref a0, .int x1, .int x2] [] w = mThen (mK d 121 [.ref a0, .int x1, .int x2] w) (fun v w9 => mX (d + 1) 101 37 [mJ, mJ, mJ] (v.toList ++ []) w9) := by
  refine Eq.trans (X_st f_101_31 rfl rfl) ?_
  refine Eq.trans (X_st f_101_32 rfl rfl) ?_
  refine Eq.trans (X_st f_101_33 rfl rfl) ?_
  refine Eq.trans (X_call f_101_34 (by decide) rfl rfl rfl rfl rfl rfl (Nat.le_of_ble_eq_true rfl) (Nat.le_of_ble_eq_true rfl) (decide_eq_true h0) (Nat.le_of_ble_eq_true rfl)) ?_
  exact mThen_eq fun v w9 => mX_mask rfl
theorem b_101_37 {d : Nat} {y0 : Int32} {w : MW} : mX d 101 37 [mJ, mJ, mJ] [.int y0] w = some (.inl (some (.int y0)), w) := by
  exact X_ireturn f_101_37 rfl
/-! BeeTurnpike part (II)I -/
theorem f_102_0 : mFetch 102 0 = some (.aload_n 0, 1, []) := by decide +kernel
theorem f_102_1 : mFetch 102 1 = some (.getfield 28, 3, [9, 2, 0, 447]) := by decide +kernel
theorem f_102_4 : mFetch 102 4 = some (.iconst 2, 1, []) := by decide +kernel
theorem f_102_5 : mFetch 102 5 = some (.iload_n 1, 1, []) := by decide +kernel
theorem f_102_6 : mFetch 102 6 = some (.invokevirtual 126, 3, [86, 3, 2, 8, 583, 584, 585]) := by decide +kernel
theorem f_102_9 : mFetch 102 9 = some (.ifCond .eq 22, 3, [31]) := by decide +kernel
theorem f_102_12 : mFetch 102 12 = some (.iload_n 2, 1, []) := by decide +kernel
theorem f_102_13 : mFetch 102 13 = some (.ifCond .lt 18, 3, [31]) := by decide +kernel
theorem f_102_16 : mFetch 102 16 = some (.iload_n 2, 1, []) := by decide +kernel
theorem f_102_17 : mFetch 102 17 = some (.aload_n 0, 1, []) := by decide +kernel
theorem f_102_18 : mFetch 102 18 = some (.getfield 28, 3, [9, 2, 0, 447]) := by decide +kernel
theorem f_102_21 : mFetch 102 21 = some (.getfield 141, 3, [8, 5, 1, 99]) := by decide +kernel
theorem f_102_24 : mFetch 102 24 = some (.iload_n 1, 1, []) := by decide +kernel
theorem f_102_25 : mFetch 102 25 = some (.invokestatic 107, 3, [123, 2, 0, 0, 592, 559]) := by decide +kernel
theorem f_102_28 : mFetch 102 28 = some (.if_icmp .lt 13, 3, [41]) := by decide +kernel
theorem f_102_41 : mFetch 102 41 = some (.aload_n 0, 1, []) := by decide +kernel
theorem f_102_42 : mFetch 102 42 = some (.getfield 28, 3, [9, 2, 0, 447]) := by decide +kernel
theorem f_102_45 : mFetch 102 45 = some (.iload_n 1, 1, []) := by decide +kernel
theorem f_102_46 : mFetch 102 46 = some (.iload_n 2, 1, []) := by decide +kernel
theorem f_102_47 : mFetch 102 47 = some (.invokevirtual 146, 3, [88, 3, 2, 8, 916, 598, 599]) := by decide +kernel
theorem f_102_50 : mFetch 102 50 = some (.ireturn, 1, [0]) := by decide +kernel
theorem b_102_0 {d : Nat} {a0 : Nat} {x1 : Int32} {x2 : Int32} {w : MW} (h0 : mTg w a0 = 9) (h1 : mR w a0 2 = some (gR w a0 2)) (h2 : mTg w (gR w a0 2) = 8) : mX (d + 1) 102 0 [.ref a0, .int x1, .int x2] [] w = mThen (mK d 86 [.ref (gR w a0 2), .int (nI 2), .int x1] w) (fun v w9 => mX (d + 1) 102 9 [.ref a0, .int x1, .int x2] (v.toList ++ []) w9) := by
  refine Eq.trans (X_st f_102_0 rfl rfl) ?_
  refine Eq.trans (X_getR f_102_1 h0 rfl h1) ?_
  refine Eq.trans (X_iconst f_102_4 kc_i_2) ?_
  refine Eq.trans (X_st f_102_5 rfl rfl) ?_
  refine Eq.trans (X_call f_102_6 (by decide) rfl rfl rfl rfl rfl rfl (Nat.le_of_ble_eq_true rfl) (Nat.le_of_ble_eq_true rfl) (decide_eq_true h2) (Nat.le_of_ble_eq_true rfl)) ?_
  exact mThen_eq fun v w9 => mX_mask rfl
theorem e_102 {d : Nat} {a0 : Nat} {x1 : Int32} {x2 : Int32} {w : MW} : mK d 102 [.ref a0, .int x1, .int x2] w = mX d 102 0 [.ref a0, .int x1, .int x2] [] w := rfl
theorem b_102_9 {d : Nat} {a0 : Nat} {x1 : Int32} {x2 : Int32} {y0 : Int32} {w : MW} : mX d 102 9 [.ref a0, .int x1, .int x2] [.int y0] w = (if y0 = nI 0 then mX d 102 31 [mJ, mJ, mJ] [] w else mX d 102 12 [.ref a0, .int x1, .int x2] [] w) := by
  refine Eq.trans (X_br f_102_9 rfl rfl) ?_
  exact mIte_eq (mX_mask rfl) (mX_mask rfl)
theorem b_102_12 {d : Nat} {a0 : Nat} {x1 : Int32} {x2 : Int32} {w : MW} : mX d 102 12 [.ref a0, .int x1, .int x2] [] w = (if x2 < nI 0 then mX d 102 31 [mJ, mJ, mJ] [] w else mX d 102 16 [.ref a0, .int x1, .int x2] [] w) := by
  refine Eq.trans (X_st f_102_12 rfl rfl) ?_
  refine Eq.trans (X_br f_102_13 rfl rfl) ?_
  exact mIte_eq (mX_mask rfl) (mX_mask rfl)
theorem b_102_16 {d : Nat} {a0 : Nat} {x1 : Int32} {x2 : Int32} {w : MW} (h0 : mTg w a0 = 9) (h1 : mR w a0 2 = some (gR w a0 2)) (h2 : mTg w (gR w a0 2) = 8) (h3 : mR w (gR w a0 2) 5 = some (gR w (gR w a0 2) 5)) : mX (d + 1) 102 16 [.ref a0, .int x1, .int x2] [] w = mThen (mK d 123 [.ref (gR w (gR w a0 2) 5), .int x1] w) (fun v w9 => mX (d + 1) 102 28 [.ref a0, .int x1, .int x2] (v.toList ++ [.int x2]) w9) := by
  refine Eq.trans (X_st f_102_16 rfl rfl) ?_
  refine Eq.trans (X_st f_102_17 rfl rfl) ?_
  refine Eq.trans (X_getR f_102_18 h0 rfl h1) ?_
  refine Eq.trans (X_getR f_102_21 h2 rfl h3) ?_
  refine Eq.trans (X_st f_102_24 rfl rfl) ?_
  refine Eq.trans (X_call f_102_25 (by decide) rfl rfl rfl rfl rfl rfl (Nat.le_of_ble_eq_true rfl) (Nat.le_of_ble_eq_true rfl) rfl (Nat.le_of_ble_eq_true rfl)) ?_
  exact mThen_eq fun v w9 => mX_mask rfl
theorem b_102_28 {d : Nat} {a0 : Nat} {x1 : Int32} {x2 : Int32} {y0 : Int32} {y1 : Int32} {w : MW} : mX d 102 28 [.ref a0, .int x1, .int x2] [.int y0, .int y1] w = (if y1 < y0 then mX d 102 41 [.ref a0, .int x1, .int x2] [] w else mX d 102 31 [mJ, mJ, mJ] [] w) := by
  refine Eq.trans (X_br f_102_28 rfl rfl) ?_
  exact mIte_eq (mX_mask rfl) (mX_mask rfl)
theorem b_102_41 {d : Nat} {a0 : Nat} {x1 : Int32} {x2 : Int32} {w : MW} (h0 : mTg w a0 = 9) (h1 : mR w a0 2 = some (gR w a0 2)) (h2 : mTg w (gR w a0 2) = 8) : mX (d + 1) 102 41 [.ref a0, .int x1, .int x2] [] w = mThen (mK d 88 [.ref (gR w a0 2), .int x1, .int x2] w) (fun v w9 => mX (d + 1) 102 50 [mJ, mJ, mJ] (v.toList ++ []) w9) := by
  refine Eq.trans (X_st f_102_41 rfl rfl) ?_
  refine Eq.trans (X_getR f_102_42 h0 rfl h1) ?_
  refine Eq.trans (X_st f_102_45 rfl rfl) ?_
  refine Eq.trans (X_st f_102_46 rfl rfl) ?_
  refine Eq.trans (X_call f_102_47 (by decide) rfl rfl rfl rfl rfl rfl (Nat.le_of_ble_eq_true rfl) (Nat.le_of_ble_eq_true rfl) (decide_eq_true h2) (Nat.le_of_ble_eq_true rfl)) ?_
  exact mThen_eq fun v w9 => mX_mask rfl
theorem b_102_50 {d : Nat} {y0 : Int32} {w : MW} : mX d 102 50 [mJ, mJ, mJ] [.int y0] w = some (.inl (some (.int y0)), w) := by
  exact X_ireturn f_102_50 rfl
/-! BeeTurnpike speller (II)I -/
theorem f_103_0 : mFetch 103 0 = some (.aload_n 0, 1, []) := by decide +kernel
theorem f_103_1 : mFetch 103 1 = some (.getfield 28, 3, [9, 2, 0, 447]) := by decide +kernel
theorem f_103_4 : mFetch 103 4 = some (.iconst 3, 1, []) := by decide +kernel
theorem f_103_5 : mFetch 103 5 = some (.iload_n 1, 1, []) := by decide +kernel
theorem f_103_6 : mFetch 103 6 = some (.invokevirtual 126, 3, [86, 3, 2, 8, 583, 584, 585]) := by decide +kernel
theorem f_103_9 : mFetch 103 9 = some (.ifCond .eq 13, 3, [22]) := by decide +kernel
theorem f_103_12 : mFetch 103 12 = some (.iload_n 2, 1, []) := by decide +kernel
theorem f_103_13 : mFetch 103 13 = some (.ifCond .lt 9, 3, [22]) := by decide +kernel
theorem f_103_16 : mFetch 103 16 = some (.iload_n 2, 1, []) := by decide +kernel
theorem f_103_17 : mFetch 103 17 = some (.bipush 8, 2, []) := by decide +kernel
theorem f_103_19 : mFetch 103 19 = some (.if_icmp .le 13, 3, [32]) := by decide +kernel
theorem f_103_32 : mFetch 103 32 = some (.aload_n 0, 1, []) := by decide +kernel
theorem f_103_33 : mFetch 103 33 = some (.iload_n 1, 1, []) := by decide +kernel
theorem f_103_34 : mFetch 103 34 = some (.iload_n 2, 1, []) := by decide +kernel
theorem f_103_35 : mFetch 103 35 = some (.invokevirtual 151, 3, [122, 3, 2, 9, 610, 612, 7]) := by decide +kernel
theorem f_103_38 : mFetch 103 38 = some (.ireturn, 1, [0]) := by decide +kernel
theorem b_103_0 {d : Nat} {a0 : Nat} {x1 : Int32} {x2 : Int32} {w : MW} (h0 : mTg w a0 = 9) (h1 : mR w a0 2 = some (gR w a0 2)) (h2 : mTg w (gR w a0 2) = 8) : mX (d + 1) 103 0 [.ref a0, .int x1, .int x2] [] w = mThen (mK d 86 [.ref (gR w a0 2), .int (nI 3), .int x1] w) (fun v w9 => mX (d + 1) 103 9 [.ref a0, .int x1, .int x2] (v.toList ++ []) w9) := by
  refine Eq.trans (X_st f_103_0 rfl rfl) ?_
  refine Eq.trans (X_getR f_103_1 h0 rfl h1) ?_
  refine Eq.trans (X_iconst f_103_4 kc_i_3) ?_
  refine Eq.trans (X_st f_103_5 rfl rfl) ?_
  refine Eq.trans (X_call f_103_6 (by decide) rfl rfl rfl rfl rfl rfl (Nat.le_of_ble_eq_true rfl) (Nat.le_of_ble_eq_true rfl) (decide_eq_true h2) (Nat.le_of_ble_eq_true rfl)) ?_
  exact mThen_eq fun v w9 => mX_mask rfl
theorem e_103 {d : Nat} {a0 : Nat} {x1 : Int32} {x2 : Int32} {w : MW} : mK d 103 [.ref a0, .int x1, .int x2] w = mX d 103 0 [.ref a0, .int x1, .int x2] [] w := rfl
theorem b_103_9 {d : Nat} {a0 : Nat} {x1 : Int32} {x2 : Int32} {y0 : Int32} {w : MW} : mX d 103 9 [.ref a0, .int x1, .int x2] [.int y0] w = (if y0 = nI 0 then mX d 103 22 [mJ, mJ, mJ] [] w else mX d 103 12 [.ref a0, .int x1, .int x2] [] w) := by
  refine Eq.trans (X_br f_103_9 rfl rfl) ?_
  exact mIte_eq (mX_mask rfl) (mX_mask rfl)
theorem b_103_12 {d : Nat} {a0 : Nat} {x1 : Int32} {x2 : Int32} {w : MW} : mX d 103 12 [.ref a0, .int x1, .int x2] [] w = (if x2 < nI 0 then mX d 103 22 [mJ, mJ, mJ] [] w else mX d 103 16 [.ref a0, .int x1, .int x2] [] w) := by
  refine Eq.trans (X_st f_103_12 rfl rfl) ?_
  refine Eq.trans (X_br f_103_13 rfl rfl) ?_
  exact mIte_eq (mX_mask rfl) (mX_mask rfl)
theorem b_103_16 {d : Nat} {a0 : Nat} {x1 : Int32} {x2 : Int32} {w : MW} : mX d 103 16 [.ref a0, .int x1, .int x2] [] w = (if x2 ≤ (nI 8) then mX d 103 32 [.ref a0, .int x1, .int x2] [] w else mX d 103 22 [mJ, mJ, mJ] [] w) := by
  refine Eq.trans (X_st f_103_16 rfl rfl) ?_
  refine Eq.trans (X_bipush f_103_17 kc_b_8) ?_
  refine Eq.trans (X_br f_103_19 rfl rfl) ?_
  exact mIte_eq (mX_mask rfl) (mX_mask rfl)
theorem b_103_32 {d : Nat} {a0 : Nat} {x1 : Int32} {x2 : Int32} {w : MW} (h0 : mTg w a0 = 9) : mX (d + 1) 103 32 [.ref a0, .int x1, .int x2] [] w = mThen (mK d 122 [.ref a0, .int x1, .int x2] w) (fun v w9 => mX (d + 1) 103 38 [mJ, mJ, mJ] (v.toList ++ []) w9) := by
  refine Eq.trans (X_st f_103_32 rfl rfl) ?_
  refine Eq.trans (X_st f_103_33 rfl rfl) ?_
  refine Eq.trans (X_st f_103_34 rfl rfl) ?_
  refine Eq.trans (X_call f_103_35 (by decide) rfl rfl rfl rfl rfl rfl (Nat.le_of_ble_eq_true rfl) (Nat.le_of_ble_eq_true rfl) (decide_eq_true h0) (Nat.le_of_ble_eq_true rfl)) ?_
  exact mThen_eq fun v w9 => mX_mask rfl
theorem b_103_38 {d : Nat} {y0 : Int32} {w : MW} : mX d 103 38 [mJ, mJ, mJ] [.int y0] w = some (.inl (some (.int y0)), w) := by
  exact X_ireturn f_103_38 rfl
/-! BeeTurnpike knows (II)I -/
theorem f_104_0 : mFetch 104 0 = some (.aload_n 0, 1, []) := by decide +kernel
theorem f_104_1 : mFetch 104 1 = some (.getfield 28, 3, [9, 2, 0, 447]) := by decide +kernel
theorem f_104_4 : mFetch 104 4 = some (.iconst 3, 1, []) := by decide +kernel
theorem f_104_5 : mFetch 104 5 = some (.iload_n 1, 1, []) := by decide +kernel
theorem f_104_6 : mFetch 104 6 = some (.invokevirtual 126, 3, [86, 3, 2, 8, 583, 584, 585]) := by decide +kernel
theorem f_104_9 : mFetch 104 9 = some (.ifCond .eq 15, 3, [24]) := by decide +kernel
theorem f_104_12 : mFetch 104 12 = some (.aload_n 0, 1, []) := by decide +kernel
theorem f_104_13 : mFetch 104 13 = some (.getfield 28, 3, [9, 2, 0, 447]) := by decide +kernel
theorem f_104_16 : mFetch 104 16 = some (.iconst 0, 1, []) := by decide +kernel
theorem f_104_17 : mFetch 104 17 = some (.iload_n 2, 1, []) := by decide +kernel
theorem f_104_18 : mFetch 104 18 = some (.invokevirtual 126, 3, [86, 3, 2, 8, 583, 584, 585]) := by decide +kernel
theorem f_104_21 : mFetch 104 21 = some (.ifCond .ne 13, 3, [34]) := by decide +kernel
theorem f_104_34 : mFetch 104 34 = some (.aload_n 0, 1, []) := by decide +kernel
theorem f_104_35 : mFetch 104 35 = some (.getfield 62, 3, [9, 6, 0, 451]) := by decide +kernel
theorem f_104_38 : mFetch 104 38 = some (.iload_n 1, 1, []) := by decide +kernel
theorem f_104_39 : mFetch 104 39 = some (.invokevirtual 156, 3, [1, 2, 2, 0, 614, 576, 577]) := by decide +kernel
theorem f_104_42 : mFetch 104 42 = some (.getfield 160, 3, [4, 0, 1, 100]) := by decide +kernel
theorem f_104_45 : mFetch 104 45 = some (.iload_n 2, 1, []) := by decide +kernel
theorem f_104_46 : mFetch 104 46 = some (.invokestatic 107, 3, [123, 2, 0, 0, 592, 559]) := by decide +kernel
theorem f_104_49 : mFetch 104 49 = some (.ireturn, 1, [0]) := by decide +kernel
theorem b_104_0 {d : Nat} {a0 : Nat} {x1 : Int32} {x2 : Int32} {w : MW} (h0 : mTg w a0 = 9) (h1 : mR w a0 2 = some (gR w a0 2)) (h2 : mTg w (gR w a0 2) = 8) : mX (d + 1) 104 0 [.ref a0, .int x1, .int x2] [] w = mThen (mK d 86 [.ref (gR w a0 2), .int (nI 3), .int x1] w) (fun v w9 => mX (d + 1) 104 9 [.ref a0, .int x1, .int x2] (v.toList ++ []) w9) := by
  refine Eq.trans (X_st f_104_0 rfl rfl) ?_
  refine Eq.trans (X_getR f_104_1 h0 rfl h1) ?_
  refine Eq.trans (X_iconst f_104_4 kc_i_3) ?_
  refine Eq.trans (X_st f_104_5 rfl rfl) ?_
  refine Eq.trans (X_call f_104_6 (by decide) rfl rfl rfl rfl rfl rfl (Nat.le_of_ble_eq_true rfl) (Nat.le_of_ble_eq_true rfl) (decide_eq_true h2) (Nat.le_of_ble_eq_true rfl)) ?_
  exact mThen_eq fun v w9 => mX_mask rfl
theorem e_104 {d : Nat} {a0 : Nat} {x1 : Int32} {x2 : Int32} {w : MW} : mK d 104 [.ref a0, .int x1, .int x2] w = mX d 104 0 [.ref a0, .int x1, .int x2] [] w := rfl
theorem b_104_9 {d : Nat} {a0 : Nat} {x1 : Int32} {x2 : Int32} {y0 : Int32} {w : MW} : mX d 104 9 [.ref a0, .int x1, .int x2] [.int y0] w = (if y0 = nI 0 then mX d 104 24 [mJ, mJ, mJ] [] w else mX d 104 12 [.ref a0, .int x1, .int x2] [] w) := by
  refine Eq.trans (X_br f_104_9 rfl rfl) ?_
  exact mIte_eq (mX_mask rfl) (mX_mask rfl)
theorem b_104_12 {d : Nat} {a0 : Nat} {x1 : Int32} {x2 : Int32} {w : MW} (h0 : mTg w a0 = 9) (h1 : mR w a0 2 = some (gR w a0 2)) (h2 : mTg w (gR w a0 2) = 8) : mX (d + 1) 104 12 [.ref a0, .int x1, .int x2] [] w = mThen (mK d 86 [.ref (gR w a0 2), .int (nI 0), .int x2] w) (fun v w9 => mX (d + 1) 104 21 [.ref a0, .int x1, .int x2] (v.toList ++ []) w9) := by
  refine Eq.trans (X_st f_104_12 rfl rfl) ?_
  refine Eq.trans (X_getR f_104_13 h0 rfl h1) ?_
  refine Eq.trans (X_iconst f_104_16 kc_i_0) ?_
  refine Eq.trans (X_st f_104_17 rfl rfl) ?_
  refine Eq.trans (X_call f_104_18 (by decide) rfl rfl rfl rfl rfl rfl (Nat.le_of_ble_eq_true rfl) (Nat.le_of_ble_eq_true rfl) (decide_eq_true h2) (Nat.le_of_ble_eq_true rfl)) ?_
  exact mThen_eq fun v w9 => mX_mask rfl
theorem b_104_21 {d : Nat} {a0 : Nat} {x1 : Int32} {x2 : Int32} {y0 : Int32} {w : MW} : mX d 104 21 [.ref a0, .int x1, .int x2] [.int y0] w = (if ¬ y0 = nI 0 then mX d 104 34 [.ref a0, .int x1, .int x2] [] w else mX d 104 24 [mJ, mJ, mJ] [] w) := by
  refine Eq.trans (X_br f_104_21 rfl rfl) ?_
  exact mIte_eq (mX_mask rfl) (mX_mask rfl)
theorem b_104_34 {d : Nat} {a0 : Nat} {x1 : Int32} {x2 : Int32} {w : MW} (h0 : mTg w a0 = 9) (h1 : mR w a0 6 = some (gR w a0 6)) (h2 : mTg w (gR w a0 6) = 0) : mX (d + 1) 104 34 [.ref a0, .int x1, .int x2] [] w = mThen (mK d 1 [.ref (gR w a0 6), .int x1] w) (fun v w9 => mX (d + 1) 104 42 [mJ, mJ, .int x2] (v.toList ++ []) w9) := by
  refine Eq.trans (X_st f_104_34 rfl rfl) ?_
  refine Eq.trans (X_getR f_104_35 h0 rfl h1) ?_
  refine Eq.trans (X_st f_104_38 rfl rfl) ?_
  refine Eq.trans (X_call f_104_39 (by decide) rfl rfl rfl rfl rfl rfl (Nat.le_of_ble_eq_true rfl) (Nat.le_of_ble_eq_true rfl) (decide_eq_true h2) (Nat.le_of_ble_eq_true rfl)) ?_
  exact mThen_eq fun v w9 => mX_mask rfl
theorem b_104_42 {d : Nat} {x2 : Int32} {b0 : Nat} {w : MW} (h0 : mTg w b0 = 4) (h1 : mR w b0 0 = some (gR w b0 0)) : mX (d + 1) 104 42 [mJ, mJ, .int x2] [.ref b0] w = mThen (mK d 123 [.ref (gR w b0 0), .int x2] w) (fun v w9 => mX (d + 1) 104 49 [mJ, mJ, mJ] (v.toList ++ []) w9) := by
  refine Eq.trans (X_getR f_104_42 h0 rfl h1) ?_
  refine Eq.trans (X_st f_104_45 rfl rfl) ?_
  refine Eq.trans (X_call f_104_46 (by decide) rfl rfl rfl rfl rfl rfl (Nat.le_of_ble_eq_true rfl) (Nat.le_of_ble_eq_true rfl) rfl (Nat.le_of_ble_eq_true rfl)) ?_
  exact mThen_eq fun v w9 => mX_mask rfl
theorem b_104_49 {d : Nat} {y0 : Int32} {w : MW} : mX d 104 49 [mJ, mJ, mJ] [.int y0] w = some (.inl (some (.int y0)), w) := by
  exact X_ireturn f_104_49 rfl
/-! BeeTurnpike heard (II)I -/
theorem f_105_0 : mFetch 105 0 = some (.aload_n 0, 1, []) := by decide +kernel
theorem f_105_1 : mFetch 105 1 = some (.getfield 28, 3, [9, 2, 0, 447]) := by decide +kernel
theorem f_105_4 : mFetch 105 4 = some (.iconst 3, 1, []) := by decide +kernel
theorem f_105_5 : mFetch 105 5 = some (.iload_n 1, 1, []) := by decide +kernel
theorem f_105_6 : mFetch 105 6 = some (.invokevirtual 126, 3, [86, 3, 2, 8, 583, 584, 585]) := by decide +kernel
theorem f_105_9 : mFetch 105 9 = some (.ifCond .eq 15, 3, [24]) := by decide +kernel
theorem f_105_12 : mFetch 105 12 = some (.aload_n 0, 1, []) := by decide +kernel
theorem f_105_13 : mFetch 105 13 = some (.getfield 28, 3, [9, 2, 0, 447]) := by decide +kernel
theorem f_105_16 : mFetch 105 16 = some (.iconst 1, 1, []) := by decide +kernel
theorem f_105_17 : mFetch 105 17 = some (.iload_n 2, 1, []) := by decide +kernel
theorem f_105_18 : mFetch 105 18 = some (.invokevirtual 126, 3, [86, 3, 2, 8, 583, 584, 585]) := by decide +kernel
theorem f_105_21 : mFetch 105 21 = some (.ifCond .ne 13, 3, [34]) := by decide +kernel
theorem f_105_34 : mFetch 105 34 = some (.aload_n 0, 1, []) := by decide +kernel
theorem f_105_35 : mFetch 105 35 = some (.getfield 62, 3, [9, 6, 0, 451]) := by decide +kernel
theorem f_105_38 : mFetch 105 38 = some (.iload_n 1, 1, []) := by decide +kernel
theorem f_105_39 : mFetch 105 39 = some (.invokevirtual 156, 3, [1, 2, 2, 0, 614, 576, 577]) := by decide +kernel
theorem f_105_42 : mFetch 105 42 = some (.getfield 167, 3, [4, 1, 1, 101]) := by decide +kernel
theorem f_105_45 : mFetch 105 45 = some (.iload_n 2, 1, []) := by decide +kernel
theorem f_105_46 : mFetch 105 46 = some (.invokestatic 107, 3, [123, 2, 0, 0, 592, 559]) := by decide +kernel
theorem f_105_49 : mFetch 105 49 = some (.ireturn, 1, [0]) := by decide +kernel
theorem b_105_0 {d : Nat} {a0 : Nat} {x1 : Int32} {x2 : Int32} {w : MW} (h0 : mTg w a0 = 9) (h1 : mR w a0 2 = some (gR w a0 2)) (h2 : mTg w (gR w a0 2) = 8) : mX (d + 1) 105 0 [.ref a0, .int x1, .int x2] [] w = mThen (mK d 86 [.ref (gR w a0 2), .int (nI 3), .int x1] w) (fun v w9 => mX (d + 1) 105 9 [.ref a0, .int x1, .int x2] (v.toList ++ []) w9) := by
  refine Eq.trans (X_st f_105_0 rfl rfl) ?_
  refine Eq.trans (X_getR f_105_1 h0 rfl h1) ?_
  refine Eq.trans (X_iconst f_105_4 kc_i_3) ?_
  refine Eq.trans (X_st f_105_5 rfl rfl) ?_
  refine Eq.trans (X_call f_105_6 (by decide) rfl rfl rfl rfl rfl rfl (Nat.le_of_ble_eq_true rfl) (Nat.le_of_ble_eq_true rfl) (decide_eq_true h2) (Nat.le_of_ble_eq_true rfl)) ?_
  exact mThen_eq fun v w9 => mX_mask rfl
theorem e_105 {d : Nat} {a0 : Nat} {x1 : Int32} {x2 : Int32} {w : MW} : mK d 105 [.ref a0, .int x1, .int x2] w = mX d 105 0 [.ref a0, .int x1, .int x2] [] w := rfl
theorem b_105_9 {d : Nat} {a0 : Nat} {x1 : Int32} {x2 : Int32} {y0 : Int32} {w : MW} : mX d 105 9 [.ref a0, .int x1, .int x2] [.int y0] w = (if y0 = nI 0 then mX d 105 24 [mJ, mJ, mJ] [] w else mX d 105 12 [.ref a0, .int x1, .int x2] [] w) := by
  refine Eq.trans (X_br f_105_9 rfl rfl) ?_
  exact mIte_eq (mX_mask rfl) (mX_mask rfl)
theorem b_105_12 {d : Nat} {a0 : Nat} {x1 : Int32} {x2 : Int32} {w : MW} (h0 : mTg w a0 = 9) (h1 : mR w a0 2 = some (gR w a0 2)) (h2 : mTg w (gR w a0 2) = 8) : mX (d + 1) 105 12 [.ref a0, .int x1, .int x2] [] w = mThen (mK d 86 [.ref (gR w a0 2), .int (nI 1), .int x2] w) (fun v w9 => mX (d + 1) 105 21 [.ref a0, .int x1, .int x2] (v.toList ++ []) w9) := by
  refine Eq.trans (X_st f_105_12 rfl rfl) ?_
  refine Eq.trans (X_getR f_105_13 h0 rfl h1) ?_
  refine Eq.trans (X_iconst f_105_16 kc_i_1) ?_
  refine Eq.trans (X_st f_105_17 rfl rfl) ?_
  refine Eq.trans (X_call f_105_18 (by decide) rfl rfl rfl rfl rfl rfl (Nat.le_of_ble_eq_true rfl) (Nat.le_of_ble_eq_true rfl) (decide_eq_true h2) (Nat.le_of_ble_eq_true rfl)) ?_
  exact mThen_eq fun v w9 => mX_mask rfl
theorem b_105_21 {d : Nat} {a0 : Nat} {x1 : Int32} {x2 : Int32} {y0 : Int32} {w : MW} : mX d 105 21 [.ref a0, .int x1, .int x2] [.int y0] w = (if ¬ y0 = nI 0 then mX d 105 34 [.ref a0, .int x1, .int x2] [] w else mX d 105 24 [mJ, mJ, mJ] [] w) := by
  refine Eq.trans (X_br f_105_21 rfl rfl) ?_
  exact mIte_eq (mX_mask rfl) (mX_mask rfl)
theorem b_105_34 {d : Nat} {a0 : Nat} {x1 : Int32} {x2 : Int32} {w : MW} (h0 : mTg w a0 = 9) (h1 : mR w a0 6 = some (gR w a0 6)) (h2 : mTg w (gR w a0 6) = 0) : mX (d + 1) 105 34 [.ref a0, .int x1, .int x2] [] w = mThen (mK d 1 [.ref (gR w a0 6), .int x1] w) (fun v w9 => mX (d + 1) 105 42 [mJ, mJ, .int x2] (v.toList ++ []) w9) := by
  refine Eq.trans (X_st f_105_34 rfl rfl) ?_
  refine Eq.trans (X_getR f_105_35 h0 rfl h1) ?_
  refine Eq.trans (X_st f_105_38 rfl rfl) ?_
  refine Eq.trans (X_call f_105_39 (by decide) rfl rfl rfl rfl rfl rfl (Nat.le_of_ble_eq_true rfl) (Nat.le_of_ble_eq_true rfl) (decide_eq_true h2) (Nat.le_of_ble_eq_true rfl)) ?_
  exact mThen_eq fun v w9 => mX_mask rfl
theorem b_105_42 {d : Nat} {x2 : Int32} {b0 : Nat} {w : MW} (h0 : mTg w b0 = 4) (h1 : mR w b0 1 = some (gR w b0 1)) : mX (d + 1) 105 42 [mJ, mJ, .int x2] [.ref b0] w = mThen (mK d 123 [.ref (gR w b0 1), .int x2] w) (fun v w9 => mX (d + 1) 105 49 [mJ, mJ, mJ] (v.toList ++ []) w9) := by
  refine Eq.trans (X_getR f_105_42 h0 rfl h1) ?_
  refine Eq.trans (X_st f_105_45 rfl rfl) ?_
  refine Eq.trans (X_call f_105_46 (by decide) rfl rfl rfl rfl rfl rfl (Nat.le_of_ble_eq_true rfl) (Nat.le_of_ble_eq_true rfl) rfl (Nat.le_of_ble_eq_true rfl)) ?_
  exact mThen_eq fun v w9 => mX_mask rfl
theorem b_105_49 {d : Nat} {y0 : Int32} {w : MW} : mX d 105 49 [mJ, mJ, mJ] [.int y0] w = some (.inl (some (.int y0)), w) := by
  exact X_ireturn f_105_49 rfl
/-! BeeTurnpike strong (II)I -/
theorem f_106_0 : mFetch 106 0 = some (.aload_n 0, 1, []) := by decide +kernel
theorem f_106_1 : mFetch 106 1 = some (.getfield 28, 3, [9, 2, 0, 447]) := by decide +kernel
theorem f_106_4 : mFetch 106 4 = some (.iconst 3, 1, []) := by decide +kernel
theorem f_106_5 : mFetch 106 5 = some (.iload_n 1, 1, []) := by decide +kernel
theorem f_106_6 : mFetch 106 6 = some (.invokevirtual 126, 3, [86, 3, 2, 8, 583, 584, 585]) := by decide +kernel
theorem f_106_9 : mFetch 106 9 = some (.ifCond .eq 15, 3, [24]) := by decide +kernel
theorem f_106_12 : mFetch 106 12 = some (.aload_n 0, 1, []) := by decide +kernel
theorem f_106_13 : mFetch 106 13 = some (.getfield 28, 3, [9, 2, 0, 447]) := by decide +kernel
theorem f_106_16 : mFetch 106 16 = some (.iconst 2, 1, []) := by decide +kernel
theorem f_106_17 : mFetch 106 17 = some (.iload_n 2, 1, []) := by decide +kernel
theorem f_106_18 : mFetch 106 18 = some (.invokevirtual 126, 3, [86, 3, 2, 8, 583, 584, 585]) := by decide +kernel
theorem f_106_21 : mFetch 106 21 = some (.ifCond .ne 13, 3, [34]) := by decide +kernel
theorem f_106_34 : mFetch 106 34 = some (.aload_n 0, 1, []) := by decide +kernel
theorem f_106_35 : mFetch 106 35 = some (.getfield 62, 3, [9, 6, 0, 451]) := by decide +kernel
theorem f_106_38 : mFetch 106 38 = some (.iload_n 1, 1, []) := by decide +kernel
theorem f_106_39 : mFetch 106 39 = some (.iload_n 2, 1, []) := by decide +kernel
theorem f_106_40 : mFetch 106 40 = some (.invokevirtual 172, 3, [11, 3, 2, 0, 633, 634, 635]) := by decide +kernel
theorem f_106_43 : mFetch 106 43 = some (.ireturn, 1, [0]) := by decide +kernel
theorem b_106_0 {d : Nat} {a0 : Nat} {x1 : Int32} {x2 : Int32} {w : MW} (h0 : mTg w a0 = 9) (h1 : mR w a0 2 = some (gR w a0 2)) (h2 : mTg w (gR w a0 2) = 8) : mX (d + 1) 106 0 [.ref a0, .int x1, .int x2] [] w = mThen (mK d 86 [.ref (gR w a0 2), .int (nI 3), .int x1] w) (fun v w9 => mX (d + 1) 106 9 [.ref a0, .int x1, .int x2] (v.toList ++ []) w9) := by
  refine Eq.trans (X_st f_106_0 rfl rfl) ?_
  refine Eq.trans (X_getR f_106_1 h0 rfl h1) ?_
  refine Eq.trans (X_iconst f_106_4 kc_i_3) ?_
  refine Eq.trans (X_st f_106_5 rfl rfl) ?_
  refine Eq.trans (X_call f_106_6 (by decide) rfl rfl rfl rfl rfl rfl (Nat.le_of_ble_eq_true rfl) (Nat.le_of_ble_eq_true rfl) (decide_eq_true h2) (Nat.le_of_ble_eq_true rfl)) ?_
  exact mThen_eq fun v w9 => mX_mask rfl
theorem e_106 {d : Nat} {a0 : Nat} {x1 : Int32} {x2 : Int32} {w : MW} : mK d 106 [.ref a0, .int x1, .int x2] w = mX d 106 0 [.ref a0, .int x1, .int x2] [] w := rfl
theorem b_106_9 {d : Nat} {a0 : Nat} {x1 : Int32} {x2 : Int32} {y0 : Int32} {w : MW} : mX d 106 9 [.ref a0, .int x1, .int x2] [.int y0] w = (if y0 = nI 0 then mX d 106 24 [mJ, mJ, mJ] [] w else mX d 106 12 [.ref a0, .int x1, .int x2] [] w) := by
  refine Eq.trans (X_br f_106_9 rfl rfl) ?_
  exact mIte_eq (mX_mask rfl) (mX_mask rfl)
theorem b_106_12 {d : Nat} {a0 : Nat} {x1 : Int32} {x2 : Int32} {w : MW} (h0 : mTg w a0 = 9) (h1 : mR w a0 2 = some (gR w a0 2)) (h2 : mTg w (gR w a0 2) = 8) : mX (d + 1) 106 12 [.ref a0, .int x1, .int x2] [] w = mThen (mK d 86 [.ref (gR w a0 2), .int (nI 2), .int x2] w) (fun v w9 => mX (d + 1) 106 21 [.ref a0, .int x1, .int x2] (v.toList ++ []) w9) := by
  refine Eq.trans (X_st f_106_12 rfl rfl) ?_
  refine Eq.trans (X_getR f_106_13 h0 rfl h1) ?_
  refine Eq.trans (X_iconst f_106_16 kc_i_2) ?_
  refine Eq.trans (X_st f_106_17 rfl rfl) ?_
  refine Eq.trans (X_call f_106_18 (by decide) rfl rfl rfl rfl rfl rfl (Nat.le_of_ble_eq_true rfl) (Nat.le_of_ble_eq_true rfl) (decide_eq_true h2) (Nat.le_of_ble_eq_true rfl)) ?_
  exact mThen_eq fun v w9 => mX_mask rfl
theorem b_106_21 {d : Nat} {a0 : Nat} {x1 : Int32} {x2 : Int32} {y0 : Int32} {w : MW} : mX d 106 21 [.ref a0, .int x1, .int x2] [.int y0] w = (if ¬ y0 = nI 0 then mX d 106 34 [.ref a0, .int x1, .int x2] [] w else mX d 106 24 [mJ, mJ, mJ] [] w) := by
  refine Eq.trans (X_br f_106_21 rfl rfl) ?_
  exact mIte_eq (mX_mask rfl) (mX_mask rfl)
theorem b_106_34 {d : Nat} {a0 : Nat} {x1 : Int32} {x2 : Int32} {w : MW} (h0 : mTg w a0 = 9) (h1 : mR w a0 6 = some (gR w a0 6)) (h2 : mTg w (gR w a0 6) = 0) : mX (d + 1) 106 34 [.ref a0, .int x1, .int x2] [] w = mThen (mK d 11 [.ref (gR w a0 6), .int x1, .int x2] w) (fun v w9 => mX (d + 1) 106 43 [mJ, mJ, mJ] (v.toList ++ []) w9) := by
  refine Eq.trans (X_st f_106_34 rfl rfl) ?_
  refine Eq.trans (X_getR f_106_35 h0 rfl h1) ?_
  refine Eq.trans (X_st f_106_38 rfl rfl) ?_
  refine Eq.trans (X_st f_106_39 rfl rfl) ?_
  refine Eq.trans (X_call f_106_40 (by decide) rfl rfl rfl rfl rfl rfl (Nat.le_of_ble_eq_true rfl) (Nat.le_of_ble_eq_true rfl) (decide_eq_true h2) (Nat.le_of_ble_eq_true rfl)) ?_
  exact mThen_eq fun v w9 => mX_mask rfl
theorem b_106_43 {d : Nat} {y0 : Int32} {w : MW} : mX d 106 43 [mJ, mJ, mJ] [.int y0] w = some (.inl (some (.int y0)), w) := by
  exact X_ireturn f_106_43 rfl
/-! BeeTurnpike hint ()I -/
theorem f_107_0 : mFetch 107 0 = some (.aload_n 0, 1, []) := by decide +kernel
theorem f_107_1 : mFetch 107 1 = some (.getfield 62, 3, [9, 6, 0, 451]) := by decide +kernel
theorem f_107_4 : mFetch 107 4 = some (.iconst 1, 1, []) := by decide +kernel
theorem f_107_5 : mFetch 107 5 = some (.invokevirtual 175, 3, [12, 2, 2, 0, 795, 675, 676]) := by decide +kernel
theorem f_107_8 : mFetch 107 8 = some (.ifCond .ne 13, 3, [21]) := by decide +kernel
theorem f_107_11 : mFetch 107 11 = some (.new 76, 3, [101, 993]) := by decide +kernel
theorem f_107_21 : mFetch 107 21 = some (.aload_n 0, 1, []) := by decide +kernel
theorem f_107_22 : mFetch 107 22 = some (.getfield 62, 3, [9, 6, 0, 451]) := by decide +kernel
theorem f_107_25 : mFetch 107 25 = some (.invokevirtual 181, 3, [14, 1, 2, 0, 1661, 707, 708]) := by decide +kernel
theorem f_107_28 : mFetch 107 28 = some (.aload_n 0, 1, []) := by decide +kernel
theorem f_107_29 : mFetch 107 29 = some (.getfield 62, 3, [9, 6, 0, 451]) := by decide +kernel
theorem f_107_32 : mFetch 107 32 = some (.aload_n 0, 1, []) := by decide +kernel
theorem f_107_33 : mFetch 107 33 = some (.getfield 62, 3, [9, 6, 0, 451]) := by decide +kernel
theorem f_107_36 : mFetch 107 36 = some (.getfield 184, 3, [0, 11, 1, 102]) := by decide +kernel
theorem f_107_39 : mFetch 107 39 = some (.invokevirtual 156, 3, [1, 2, 2, 0, 614, 576, 577]) := by decide +kernel
theorem f_107_42 : mFetch 107 42 = some (.getfield 187, 3, [4, 5, 1, 103]) := by decide +kernel
theorem f_107_45 : mFetch 107 45 = some (.ireturn, 1, [0]) := by decide +kernel
theorem b_107_0 {d : Nat} {a0 : Nat} {w : MW} (h0 : mTg w a0 = 9) (h1 : mR w a0 6 = some (gR w a0 6)) (h2 : mTg w (gR w a0 6) = 0) : mX (d + 1) 107 0 [.ref a0] [] w = mThen (mK d 12 [.ref (gR w a0 6), .int (nI 1)] w) (fun v w9 => mX (d + 1) 107 8 [.ref a0] (v.toList ++ []) w9) := by
  refine Eq.trans (X_st f_107_0 rfl rfl) ?_
  refine Eq.trans (X_getR f_107_1 h0 rfl h1) ?_
  refine Eq.trans (X_iconst f_107_4 kc_i_1) ?_
  refine Eq.trans (X_call f_107_5 (by decide) rfl rfl rfl rfl rfl rfl (Nat.le_of_ble_eq_true rfl) (Nat.le_of_ble_eq_true rfl) (decide_eq_true h2) (Nat.le_of_ble_eq_true rfl)) ?_
  exact mThen_eq fun v w9 => mX_mask rfl
theorem e_107 {d : Nat} {a0 : Nat} {w : MW} : mK d 107 [.ref a0] w = mX d 107 0 [.ref a0] [] w := rfl
theorem b_107_8 {d : Nat} {a0 : Nat} {y0 : Int32} {w : MW} : mX d 107 8 [.ref a0] [.int y0] w = (if ¬ y0 = nI 0 then mX d 107 21 [.ref a0] [] w else mX d 107 11 [mJ] [] w) := by
  refine Eq.trans (X_br f_107_8 rfl rfl) ?_
  exact mIte_eq (mX_mask rfl) (mX_mask rfl)
theorem b_107_11 {d : Nat} {w : MW} : mX d 107 11 [mJ] [] w = some (.inr 1, wN w 61 0 6) := by
  exact X_thr f_107_11 rfl
theorem b_107_21 {d : Nat} {a0 : Nat} {w : MW} (h0 : mTg w a0 = 9) (h1 : mR w a0 6 = some (gR w a0 6)) (h2 : mTg w (gR w a0 6) = 0) : mX (d + 1) 107 21 [.ref a0] [] w = mThen (mK d 14 [.ref (gR w a0 6)] w) (fun v w9 => mX (d + 1) 107 28 [.ref a0] (v.toList ++ []) w9) := by
  refine Eq.trans (X_st f_107_21 rfl rfl) ?_
  refine Eq.trans (X_getR f_107_22 h0 rfl h1) ?_
  refine Eq.trans (X_call f_107_25 (by decide) rfl rfl rfl rfl rfl rfl (Nat.le_of_ble_eq_true rfl) (Nat.le_of_ble_eq_true rfl) (decide_eq_true h2) (Nat.le_of_ble_eq_true rfl)) ?_
  exact mThen_eq fun v w9 => mX_mask rfl
theorem b_107_28 {d : Nat} {a0 : Nat} {w : MW} (h0 : mTg w a0 = 9) (h1 : mR w a0 6 = some (gR w a0 6)) (h2 : mTg w (gR w a0 6) = 0) : mX (d + 1) 107 28 [.ref a0] [] w = mThen (mK d 1 [.ref (gR w a0 6), .int (mI w (gR w a0 6) 11)] w) (fun v w9 => mX (d + 1) 107 42 [mJ] (v.toList ++ []) w9) := by
  refine Eq.trans (X_st f_107_28 rfl rfl) ?_
  refine Eq.trans (X_getR f_107_29 h0 rfl h1) ?_
  refine Eq.trans (X_st f_107_32 rfl rfl) ?_
  refine Eq.trans (X_getR f_107_33 h0 rfl h1) ?_
  refine Eq.trans (X_getI f_107_36 h2 rfl) ?_
  refine Eq.trans (X_call f_107_39 (by decide) rfl rfl rfl rfl rfl rfl (Nat.le_of_ble_eq_true rfl) (Nat.le_of_ble_eq_true rfl) (decide_eq_true h2) (Nat.le_of_ble_eq_true rfl)) ?_
  exact mThen_eq fun v w9 => mX_mask rfl
theorem b_107_42 {d : Nat} {b0 : Nat} {w : MW} (h0 : mTg w b0 = 4) : mX d 107 42 [mJ] [.ref b0] w = some (.inl (some (.int (mI w b0 5))), w) := by
  refine Eq.trans (X_getI f_107_42 h0 rfl) ?_
  exact X_ireturn f_107_45 rfl
/-! BeeTurnpike skip ()I -/
theorem f_108_0 : mFetch 108 0 = some (.aload_n 0, 1, []) := by decide +kernel
theorem f_108_1 : mFetch 108 1 = some (.getfield 62, 3, [9, 6, 0, 451]) := by decide +kernel
theorem f_108_4 : mFetch 108 4 = some (.iconst 2, 1, []) := by decide +kernel
theorem f_108_5 : mFetch 108 5 = some (.invokevirtual 175, 3, [12, 2, 2, 0, 795, 675, 676]) := by decide +kernel
theorem f_108_8 : mFetch 108 8 = some (.ifCond .ne 13, 3, [21]) := by decide +kernel
theorem f_108_11 : mFetch 108 11 = some (.new 76, 3, [101, 993]) := by decide +kernel
theorem f_108_21 : mFetch 108 21 = some (.aload_n 0, 1, []) := by decide +kernel
theorem f_108_22 : mFetch 108 22 = some (.getfield 62, 3, [9, 6, 0, 451]) := by decide +kernel
theorem f_108_25 : mFetch 108 25 = some (.invokevirtual 192, 3, [15, 1, 2, 0, 1669, 716, 717]) := by decide +kernel
theorem f_108_28 : mFetch 108 28 = some (.aload_n 0, 1, []) := by decide +kernel
theorem f_108_29 : mFetch 108 29 = some (.getfield 62, 3, [9, 6, 0, 451]) := by decide +kernel
theorem f_108_32 : mFetch 108 32 = some (.invokevirtual 195, 3, [25, 1, 2, 0, 1670, 742, 743]) := by decide +kernel
theorem f_108_35 : mFetch 108 35 = some (.aload_n 0, 1, []) := by decide +kernel
theorem f_108_36 : mFetch 108 36 = some (.getfield 62, 3, [9, 6, 0, 451]) := by decide +kernel
theorem f_108_39 : mFetch 108 39 = some (.getfield 184, 3, [0, 11, 1, 102]) := by decide +kernel
theorem f_108_42 : mFetch 108 42 = some (.ireturn, 1, [0]) := by decide +kernel
theorem b_108_0 {d : Nat} {a0 : Nat} {w : MW} (h0 : mTg w a0 = 9) (h1 : mR w a0 6 = some (gR w a0 6)) (h2 : mTg w (gR w a0 6) = 0) : mX (d + 1) 108 0 [.ref a0] [] w = mThen (mK d 12 [.ref (gR w a0 6), .int (nI 2)] w) (fun v w9 => mX (d + 1) 108 8 [.ref a0] (v.toList ++ []) w9) := by
  refine Eq.trans (X_st f_108_0 rfl rfl) ?_
  refine Eq.trans (X_getR f_108_1 h0 rfl h1) ?_
  refine Eq.trans (X_iconst f_108_4 kc_i_2) ?_
  refine Eq.trans (X_call f_108_5 (by decide) rfl rfl rfl rfl rfl rfl (Nat.le_of_ble_eq_true rfl) (Nat.le_of_ble_eq_true rfl) (decide_eq_true h2) (Nat.le_of_ble_eq_true rfl)) ?_
  exact mThen_eq fun v w9 => mX_mask rfl
theorem e_108 {d : Nat} {a0 : Nat} {w : MW} : mK d 108 [.ref a0] w = mX d 108 0 [.ref a0] [] w := rfl
theorem b_108_8 {d : Nat} {a0 : Nat} {y0 : Int32} {w : MW} : mX d 108 8 [.ref a0] [.int y0] w = (if ¬ y0 = nI 0 then mX d 108 21 [.ref a0] [] w else mX d 108 11 [mJ] [] w) := by
  refine Eq.trans (X_br f_108_8 rfl rfl) ?_
  exact mIte_eq (mX_mask rfl) (mX_mask rfl)
theorem b_108_11 {d : Nat} {w : MW} : mX d 108 11 [mJ] [] w = some (.inr 1, wN w 61 0 6) := by
  exact X_thr f_108_11 rfl
theorem b_108_21 {d : Nat} {a0 : Nat} {w : MW} (h0 : mTg w a0 = 9) (h1 : mR w a0 6 = some (gR w a0 6)) (h2 : mTg w (gR w a0 6) = 0) : mX (d + 1) 108 21 [.ref a0] [] w = mThen (mK d 15 [.ref (gR w a0 6)] w) (fun v w9 => mX (d + 1) 108 28 [.ref a0] (v.toList ++ []) w9) := by
  refine Eq.trans (X_st f_108_21 rfl rfl) ?_
  refine Eq.trans (X_getR f_108_22 h0 rfl h1) ?_
  refine Eq.trans (X_call f_108_25 (by decide) rfl rfl rfl rfl rfl rfl (Nat.le_of_ble_eq_true rfl) (Nat.le_of_ble_eq_true rfl) (decide_eq_true h2) (Nat.le_of_ble_eq_true rfl)) ?_
  exact mThen_eq fun v w9 => mX_mask rfl
theorem b_108_28 {d : Nat} {a0 : Nat} {w : MW} (h0 : mTg w a0 = 9) (h1 : mR w a0 6 = some (gR w a0 6)) (h2 : mTg w (gR w a0 6) = 0) : mX (d + 1) 108 28 [.ref a0] [] w = mThen (mK d 25 [.ref (gR w a0 6)] w) (fun v w9 => mX (d + 1) 108 35 [.ref a0] (v.toList ++ []) w9) := by
  refine Eq.trans (X_st f_108_28 rfl rfl) ?_
  refine Eq.trans (X_getR f_108_29 h0 rfl h1) ?_
  refine Eq.trans (X_call f_108_32 (by decide) rfl rfl rfl rfl rfl rfl (Nat.le_of_ble_eq_true rfl) (Nat.le_of_ble_eq_true rfl) (decide_eq_true h2) (Nat.le_of_ble_eq_true rfl)) ?_
  exact mThen_eq fun v w9 => mX_mask rfl
theorem b_108_35 {d : Nat} {a0 : Nat} {w : MW} (h0 : mTg w a0 = 9) (h1 : mR w a0 6 = some (gR w a0 6)) (h2 : mTg w (gR w a0 6) = 0) : mX d 108 35 [.ref a0] [] w = some (.inl (some (.int (mI w (gR w a0 6) 11))), w) := by
  refine Eq.trans (X_st f_108_35 rfl rfl) ?_
  refine Eq.trans (X_getR f_108_36 h0 rfl h1) ?_
  refine Eq.trans (X_getI f_108_39 h2 rfl) ?_
  exact X_ireturn f_108_42 rfl
/-! BeeTurnpike learn (III)I -/
theorem f_109_0 : mFetch 109 0 = some (.aload_n 0, 1, []) := by decide +kernel
theorem f_109_1 : mFetch 109 1 = some (.getfield 28, 3, [9, 2, 0, 447]) := by decide +kernel
theorem f_109_4 : mFetch 109 4 = some (.iconst 3, 1, []) := by decide +kernel
theorem f_109_5 : mFetch 109 5 = some (.iload_n 1, 1, []) := by decide +kernel
theorem f_109_6 : mFetch 109 6 = some (.invokevirtual 126, 3, [86, 3, 2, 8, 583, 584, 585]) := by decide +kernel
theorem f_109_9 : mFetch 109 9 = some (.ifCond .eq 15, 3, [24]) := by decide +kernel
theorem f_109_12 : mFetch 109 12 = some (.aload_n 0, 1, []) := by decide +kernel
theorem f_109_13 : mFetch 109 13 = some (.getfield 28, 3, [9, 2, 0, 447]) := by decide +kernel
theorem f_109_16 : mFetch 109 16 = some (.iconst 0, 1, []) := by decide +kernel
theorem f_109_17 : mFetch 109 17 = some (.iload_n 2, 1, []) := by decide +kernel
theorem f_109_18 : mFetch 109 18 = some (.invokevirtual 126, 3, [86, 3, 2, 8, 583, 584, 585]) := by decide +kernel
theorem f_109_21 : mFetch 109 21 = some (.ifCond .ne 13, 3, [34]) := by decide +kernel
theorem f_109_34 : mFetch 109 34 = some (.iload_n 3, 1, []) := by decide +kernel
theorem f_109_35 : mFetch 109 35 = some (.iconst 1, 1, []) := by decide +kernel
theorem f_109_36 : mFetch 109 36 = some (.if_icmp .lt 9, 3, [45]) := by decide +kernel
theorem f_109_39 : mFetch 109 39 = some (.iload_n 3, 1, []) := by decide +kernel
theorem f_109_40 : mFetch 109 40 = some (.bipush 9, 2, []) := by decide +kernel
theorem f_109_42 : mFetch 109 42 = some (.if_icmp .le 13, 3, [55]) := by decide +kernel
theorem f_109_55 : mFetch 109 55 = some (.aload_n 0, 1, []) := by decide +kernel
theorem f_109_56 : mFetch 109 56 = some (.getfield 62, 3, [9, 6, 0, 451]) := by decide +kernel
theorem f_109_59 : mFetch 109 59 = some (.iload_n 1, 1, []) := by decide +kernel
theorem f_109_60 : mFetch 109 60 = some (.invokevirtual 156, 3, [1, 2, 2, 0, 614, 576, 577]) := by decide +kernel
theorem f_109_63 : mFetch 109 63 = some (.getfield 160, 3, [4, 0, 1, 100]) := by decide +kernel
theorem f_109_66 : mFetch 109 66 = some (.astore 4, 2, []) := by decide +kernel
theorem f_109_68 : mFetch 109 68 = some (.aload 4, 2, []) := by decide +kernel
theorem f_109_70 : mFetch 109 70 = some (.iload_n 2, 1, []) := by decide +kernel
theorem f_109_71 : mFetch 109 71 = some (.bipush 20, 2, []) := by decide +kernel
theorem f_109_73 : mFetch 109 73 = some (.aload 4, 2, []) := by decide +kernel
theorem f_109_75 : mFetch 109 75 = some (.iload_n 2, 1, []) := by decide +kernel
theorem f_109_76 : mFetch 109 76 = some (.invokestatic 107, 3, [123, 2, 0, 0, 592, 559]) := by decide +kernel
theorem f_109_79 : mFetch 109 79 = some (.iload_n 3, 1, []) := by decide +kernel
theorem f_109_80 : mFetch 109 80 = some (.iadd, 1, []) := by decide +kernel
theorem f_109_81 : mFetch 109 81 = some (.invokestatic 200, 3, [183, 2, 0, 0, 773, 639]) := by decide +kernel
theorem f_109_84 : mFetch 109 84 = some (.invokestatic 205, 3, [124, 3, 0, 0, 1677, 689]) := by decide +kernel
theorem f_109_87 : mFetch 109 87 = some (.aload 4, 2, []) := by decide +kernel
theorem f_109_89 : mFetch 109 89 = some (.iload_n 2, 1, []) := by decide +kernel
theorem f_109_90 : mFetch 109 90 = some (.invokestatic 107, 3, [123, 2, 0, 0, 592, 559]) := by decide +kernel
theorem f_109_93 : mFetch 109 93 = some (.ireturn, 1, [0]) := by decide +kernel
theorem b_109_0 {d : Nat} {a0 : Nat} {x1 : Int32} {x2 : Int32} {x3 : Int32} {w : MW} (h0 : mTg w a0 = 9) (h1 : mR w a0 2 = some (gR w a0 2)) (h2 : mTg w (gR w a0 2) = 8) : mX (d + 1) 109 0 [.ref a0, .int x1, .int x2, .int x3, mJ] [] w = mThen (mK d 86 [.ref (gR w a0 2), .int (nI 3), .int x1] w) (fun v w9 => mX (d + 1) 109 9 [.ref a0, .int x1, .int x2, .int x3, mJ] (v.toList ++ []) w9) := by
  refine Eq.trans (X_st f_109_0 rfl rfl) ?_
  refine Eq.trans (X_getR f_109_1 h0 rfl h1) ?_
  refine Eq.trans (X_iconst f_109_4 kc_i_3) ?_
  refine Eq.trans (X_st f_109_5 rfl rfl) ?_
  refine Eq.trans (X_call f_109_6 (by decide) rfl rfl rfl rfl rfl rfl (Nat.le_of_ble_eq_true rfl) (Nat.le_of_ble_eq_true rfl) (decide_eq_true h2) (Nat.le_of_ble_eq_true rfl)) ?_
  exact mThen_eq fun v w9 => mX_mask rfl
theorem e_109 {d : Nat} {a0 : Nat} {x1 : Int32} {x2 : Int32} {x3 : Int32} {w : MW} : mK d 109 [.ref a0, .int x1, .int x2, .int x3] w = mX d 109 0 [.ref a0, .int x1, .int x2, .int x3, mJ] [] w := rfl
theorem b_109_9 {d : Nat} {a0 : Nat} {x1 : Int32} {x2 : Int32} {x3 : Int32} {y0 : Int32} {w : MW} : mX d 109 9 [.ref a0, .int x1, .int x2, .int x3, mJ] [.int y0] w = (if y0 = nI 0 then mX d 109 24 [mJ, mJ, mJ, mJ, mJ] [] w else mX d 109 12 [.ref a0, .int x1, .int x2, .int x3, mJ] [] w) := by
  refine Eq.trans (X_br f_109_9 rfl rfl) ?_
  exact mIte_eq (mX_mask rfl) (mX_mask rfl)
theorem b_109_12 {d : Nat} {a0 : Nat} {x1 : Int32} {x2 : Int32} {x3 : Int32} {w : MW} (h0 : mTg w a0 = 9) (h1 : mR w a0 2 = some (gR w a0 2)) (h2 : mTg w (gR w a0 2) = 8) : mX (d + 1) 109 12 [.ref a0, .int x1, .int x2, .int x3, mJ] [] w = mThen (mK d 86 [.ref (gR w a0 2), .int (nI 0), .int x2] w) (fun v w9 => mX (d + 1) 109 21 [.ref a0, .int x1, .int x2, .int x3, mJ] (v.toList ++ []) w9) := by
  refine Eq.trans (X_st f_109_12 rfl rfl) ?_
  refine Eq.trans (X_getR f_109_13 h0 rfl h1) ?_
  refine Eq.trans (X_iconst f_109_16 kc_i_0) ?_
  refine Eq.trans (X_st f_109_17 rfl rfl) ?_
  refine Eq.trans (X_call f_109_18 (by decide) rfl rfl rfl rfl rfl rfl (Nat.le_of_ble_eq_true rfl) (Nat.le_of_ble_eq_true rfl) (decide_eq_true h2) (Nat.le_of_ble_eq_true rfl)) ?_
  exact mThen_eq fun v w9 => mX_mask rfl
theorem b_109_21 {d : Nat} {a0 : Nat} {x1 : Int32} {x2 : Int32} {x3 : Int32} {y0 : Int32} {w : MW} : mX d 109 21 [.ref a0, .int x1, .int x2, .int x3, mJ] [.int y0] w = (if ¬ y0 = nI 0 then mX d 109 34 [.ref a0, .int x1, .int x2, .int x3, mJ] [] w else mX d 109 24 [mJ, mJ, mJ, mJ, mJ] [] w) := by
  refine Eq.trans (X_br f_109_21 rfl rfl) ?_
  exact mIte_eq (mX_mask rfl) (mX_mask rfl)
theorem b_109_34 {d : Nat} {a0 : Nat} {x1 : Int32} {x2 : Int32} {x3 : Int32} {w : MW} : mX d 109 34 [.ref a0, .int x1, .int x2, .int x3, mJ] [] w = (if x3 < (nI 1) then mX d 109 45 [mJ, mJ, mJ, mJ, mJ] [] w else mX d 109 39 [.ref a0, .int x1, .int x2, .int x3, mJ] [] w) := by
  refine Eq.trans (X_st f_109_34 rfl rfl) ?_
  refine Eq.trans (X_iconst f_109_35 kc_i_1) ?_
  refine Eq.trans (X_br f_109_36 rfl rfl) ?_
  exact mIte_eq (mX_mask rfl) (mX_mask rfl)
theorem b_109_39 {d : Nat} {a0 : Nat} {x1 : Int32} {x2 : Int32} {x3 : Int32} {w : MW} : mX d 109 39 [.ref a0, .int x1, .int x2, .int x3, mJ] [] w = (if x3 ≤ (nI 9) then mX d 109 55 [.ref a0, .int x1, .int x2, .int x3, mJ] [] w else mX d 109 45 [mJ, mJ, mJ, mJ, mJ] [] w) := by
  refine Eq.trans (X_st f_109_39 rfl rfl) ?_
  refine Eq.trans (X_bipush f_109_40 kc_b_9) ?_
  refine Eq.trans (X_br f_109_42 rfl rfl) ?_
  exact mIte_eq (mX_mask rfl) (mX_mask rfl)
theorem b_109_55 {d : Nat} {a0 : Nat} {x1 : Int32} {x2 : Int32} {x3 : Int32} {w : MW} (h0 : mTg w a0 = 9) (h1 : mR w a0 6 = some (gR w a0 6)) (h2 : mTg w (gR w a0 6) = 0) : mX (d + 1) 109 55 [.ref a0, .int x1, .int x2, .int x3, mJ] [] w = mThen (mK d 1 [.ref (gR w a0 6), .int x1] w) (fun v w9 => mX (d + 1) 109 63 [mJ, mJ, .int x2, .int x3, mJ] (v.toList ++ []) w9) := by
  refine Eq.trans (X_st f_109_55 rfl rfl) ?_
  refine Eq.trans (X_getR f_109_56 h0 rfl h1) ?_
  refine Eq.trans (X_st f_109_59 rfl rfl) ?_
  refine Eq.trans (X_call f_109_60 (by decide) rfl rfl rfl rfl rfl rfl (Nat.le_of_ble_eq_true rfl) (Nat.le_of_ble_eq_true rfl) (decide_eq_true h2) (Nat.le_of_ble_eq_true rfl)) ?_
  exact mThen_eq fun v w9 => mX_mask rfl
theorem b_109_63 {d : Nat} {x2 : Int32} {x3 : Int32} {b0 : Nat} {w : MW} (h0 : mTg w b0 = 4) (h1 : mR w b0 0 = some (gR w b0 0)) : mX (d + 1) 109 63 [mJ, mJ, .int x2, .int x3, mJ] [.ref b0] w = mThen (mK d 123 [.ref (gR w b0 0), .int x2] w) (fun v w9 => mX (d + 1) 109 79 [mJ, mJ, .int x2, .int x3, .ref (gR w b0 0)] (v.toList ++ [.int (nI 20), .int x2, .ref (gR w b0 0)]) w9) := by
  refine Eq.trans (X_getR f_109_63 h0 rfl h1) ?_
  refine Eq.trans (X_astore (L' := [mJ, mJ, .int x2, .int x3, .ref (gR w b0 0)]) f_109_66 (Nat.le_of_ble_eq_true rfl) rfl) ?_
  refine Eq.trans (X_st f_109_68 rfl rfl) ?_
  refine Eq.trans (X_st f_109_70 rfl rfl) ?_
  refine Eq.trans (X_bipush f_109_71 kc_b_20) ?_
  refine Eq.trans (X_st f_109_73 rfl rfl) ?_
  refine Eq.trans (X_st f_109_75 rfl rfl) ?_
  refine Eq.trans (X_call f_109_76 (by decide) rfl rfl rfl rfl rfl rfl (Nat.le_of_ble_eq_true rfl) (Nat.le_of_ble_eq_true rfl) rfl (Nat.le_of_ble_eq_true rfl)) ?_
  exact mThen_eq fun v w9 => mX_mask rfl
theorem b_109_79 {d : Nat} {x2 : Int32} {x3 : Int32} {a4 : Nat} {y0 : Int32} {y1 : Int32} {y2 : Int32} {b3 : Nat} {w : MW} : mX (d + 1) 109 79 [mJ, mJ, .int x2, .int x3, .ref a4] [.int y0, .int y1, .int y2, .ref b3] w = mThen (mK d 183 [.int y1, .int (y0 + x3)] w) (fun v w9 => mX (d + 1) 109 84 [mJ, mJ, .int x2, mJ, .ref a4] (v.toList ++ [.int y2, .ref b3]) w9) := by
  refine Eq.trans (X_st f_109_79 rfl rfl) ?_
  refine Eq.trans (X_st f_109_80 rfl rfl) ?_
  refine Eq.trans (X_call f_109_81 (by decide) rfl rfl rfl rfl rfl rfl (Nat.le_of_ble_eq_true rfl) (Nat.le_of_ble_eq_true rfl) rfl (Nat.le_of_ble_eq_true rfl)) ?_
  exact mThen_eq fun v w9 => mX_mask rfl
theorem b_109_84 {d : Nat} {x2 : Int32} {a4 : Nat} {y0 : Int32} {y1 : Int32} {b2 : Nat} {w : MW} : mX (d + 1) 109 84 [mJ, mJ, .int x2, mJ, .ref a4] [.int y0, .int y1, .ref b2] w = mThen (mK d 124 [.ref b2, .int y1, .int y0] w) (fun v w9 => mX (d + 1) 109 87 [mJ, mJ, .int x2, mJ, .ref a4] (v.toList ++ []) w9) := by
  refine Eq.trans (X_call f_109_84 (by decide) rfl rfl rfl rfl rfl rfl (Nat.le_of_ble_eq_true rfl) (Nat.le_of_ble_eq_true rfl) rfl (Nat.le_of_ble_eq_true rfl)) ?_
  exact mThen_eq fun v w9 => mX_mask rfl
theorem b_109_87 {d : Nat} {x2 : Int32} {a4 : Nat} {w : MW} : mX (d + 1) 109 87 [mJ, mJ, .int x2, mJ, .ref a4] [] w = mThen (mK d 123 [.ref a4, .int x2] w) (fun v w9 => mX (d + 1) 109 93 [mJ, mJ, mJ, mJ, mJ] (v.toList ++ []) w9) := by
  refine Eq.trans (X_st f_109_87 rfl rfl) ?_
  refine Eq.trans (X_st f_109_89 rfl rfl) ?_
  refine Eq.trans (X_call f_109_90 (by decide) rfl rfl rfl rfl rfl rfl (Nat.le_of_ble_eq_true rfl) (Nat.le_of_ble_eq_true rfl) rfl (Nat.le_of_ble_eq_true rfl)) ?_
  exact mThen_eq fun v w9 => mX_mask rfl
theorem b_109_93 {d : Nat} {y0 : Int32} {w : MW} : mX d 109 93 [mJ, mJ, mJ, mJ, mJ] [.int y0] w = some (.inl (some (.int y0)), w) := by
  exact X_ireturn f_109_93 rfl
/-! BeeTurnpike award (II)I -/
theorem f_110_0 : mFetch 110 0 = some (.aload_n 0, 1, []) := by decide +kernel
theorem f_110_1 : mFetch 110 1 = some (.getfield 28, 3, [9, 2, 0, 447]) := by decide +kernel
theorem f_110_4 : mFetch 110 4 = some (.iconst 3, 1, []) := by decide +kernel
theorem f_110_5 : mFetch 110 5 = some (.iload_n 1, 1, []) := by decide +kernel
theorem f_110_6 : mFetch 110 6 = some (.invokevirtual 126, 3, [86, 3, 2, 8, 583, 584, 585]) := by decide +kernel
theorem f_110_9 : mFetch 110 9 = some (.ifCond .ne 13, 3, [22]) := by decide +kernel
theorem f_110_22 : mFetch 110 22 = some (.iload_n 2, 1, []) := by decide +kernel
theorem f_110_23 : mFetch 110 23 = some (.iconst 1, 1, []) := by decide +kernel
theorem f_110_24 : mFetch 110 24 = some (.if_icmp .lt 9, 3, [33]) := by decide +kernel
theorem f_110_27 : mFetch 110 27 = some (.iload_n 2, 1, []) := by decide +kernel
theorem f_110_28 : mFetch 110 28 = some (.bipush 20, 2, []) := by decide +kernel
theorem f_110_30 : mFetch 110 30 = some (.if_icmp .le 13, 3, [43]) := by decide +kernel
theorem f_110_43 : mFetch 110 43 = some (.aload_n 0, 1, []) := by decide +kernel
theorem f_110_44 : mFetch 110 44 = some (.getfield 62, 3, [9, 6, 0, 451]) := by decide +kernel
theorem f_110_47 : mFetch 110 47 = some (.iload_n 1, 1, []) := by decide +kernel
theorem f_110_48 : mFetch 110 48 = some (.invokevirtual 156, 3, [1, 2, 2, 0, 614, 576, 577]) := by decide +kernel
theorem f_110_51 : mFetch 110 51 = some (.astore_n 3, 1, []) := by decide +kernel
theorem f_110_52 : mFetch 110 52 = some (.aload_n 3, 1, []) := by decide +kernel
theorem f_110_53 : mFetch 110 53 = some (.dup, 1, []) := by decide +kernel
theorem f_110_54 : mFetch 110 54 = some (.getfield 187, 3, [4, 5, 1, 103]) := by decide +kernel
theorem f_110_57 : mFetch 110 57 = some (.iload_n 2, 1, []) := by decide +kernel
theorem f_110_58 : mFetch 110 58 = some (.iadd, 1, []) := by decide +kernel
theorem f_110_59 : mFetch 110 59 = some (.putfield 187, 3, [4, 5, 1, 103]) := by decide +kernel
theorem f_110_62 : mFetch 110 62 = some (.aload_n 3, 1, []) := by decide +kernel
theorem f_110_63 : mFetch 110 63 = some (.getfield 187, 3, [4, 5, 1, 103]) := by decide +kernel
theorem f_110_66 : mFetch 110 66 = some (.ireturn, 1, [0]) := by decide +kernel
theorem b_110_0 {d : Nat} {a0 : Nat} {x1 : Int32} {x2 : Int32} {w : MW} (h0 : mTg w a0 = 9) (h1 : mR w a0 2 = some (gR w a0 2)) (h2 : mTg w (gR w a0 2) = 8) : mX (d + 1) 110 0 [.ref a0, .int x1, .int x2, mJ] [] w = mThen (mK d 86 [.ref (gR w a0 2), .int (nI 3), .int x1] w) (fun v w9 => mX (d + 1) 110 9 [.ref a0, .int x1, .int x2, mJ] (v.toList ++ []) w9) := by
  refine Eq.trans (X_st f_110_0 rfl rfl) ?_
  refine Eq.trans (X_getR f_110_1 h0 rfl h1) ?_
  refine Eq.trans (X_iconst f_110_4 kc_i_3) ?_
  refine Eq.trans (X_st f_110_5 rfl rfl) ?_
  refine Eq.trans (X_call f_110_6 (by decide) rfl rfl rfl rfl rfl rfl (Nat.le_of_ble_eq_true rfl) (Nat.le_of_ble_eq_true rfl) (decide_eq_true h2) (Nat.le_of_ble_eq_true rfl)) ?_
  exact mThen_eq fun v w9 => mX_mask rfl
theorem e_110 {d : Nat} {a0 : Nat} {x1 : Int32} {x2 : Int32} {w : MW} : mK d 110 [.ref a0, .int x1, .int x2] w = mX d 110 0 [.ref a0, .int x1, .int x2, mJ] [] w := rfl
theorem b_110_9 {d : Nat} {a0 : Nat} {x1 : Int32} {x2 : Int32} {y0 : Int32} {w : MW} : mX d 110 9 [.ref a0, .int x1, .int x2, mJ] [.int y0] w = (if ¬ y0 = nI 0 then mX d 110 22 [.ref a0, .int x1, .int x2, mJ] [] w else mX d 110 12 [mJ, mJ, mJ, mJ] [] w) := by
  refine Eq.trans (X_br f_110_9 rfl rfl) ?_
  exact mIte_eq (mX_mask rfl) (mX_mask rfl)
theorem b_110_22 {d : Nat} {a0 : Nat} {x1 : Int32} {x2 : Int32} {w : MW} : mX d 110 22 [.ref a0, .int x1, .int x2, mJ] [] w = (if x2 < (nI 1) then mX d 110 33 [mJ, mJ, mJ, mJ] [] w else mX d 110 27 [.ref a0, .int x1, .int x2, mJ] [] w) := by
  refine Eq.trans (X_st f_110_22 rfl rfl) ?_
  refine Eq.trans (X_iconst f_110_23 kc_i_1) ?_
  refine Eq.trans (X_br f_110_24 rfl rfl) ?_
  exact mIte_eq (mX_mask rfl) (mX_mask rfl)
theorem b_110_27 {d : Nat} {a0 : Nat} {x1 : Int32} {x2 : Int32} {w : MW} : mX d 110 27 [.ref a0, .int x1, .int x2, mJ] [] w = (if x2 ≤ (nI 20) then mX d 110 43 [.ref a0, .int x1, .int x2, mJ] [] w else mX d 110 33 [mJ, mJ, mJ, mJ] [] w) := by
  refine Eq.trans (X_st f_110_27 rfl rfl) ?_
  refine Eq.trans (X_bipush f_110_28 kc_b_20) ?_
  refine Eq.trans (X_br f_110_30 rfl rfl) ?_
  exact mIte_eq (mX_mask rfl) (mX_mask rfl)
theorem b_110_43 {d : Nat} {a0 : Nat} {x1 : Int32} {x2 : Int32} {w : MW} (h0 : mTg w a0 = 9) (h1 : mR w a0 6 = some (gR w a0 6)) (h2 : mTg w (gR w a0 6) = 0) : mX (d + 1) 110 43 [.ref a0, .int x1, .int x2, mJ] [] w = mThen (mK d 1 [.ref (gR w a0 6), .int x1] w) (fun v w9 => mX (d + 1) 110 51 [mJ, mJ, .int x2, mJ] (v.toList ++ []) w9) := by
  refine Eq.trans (X_st f_110_43 rfl rfl) ?_
  refine Eq.trans (X_getR f_110_44 h0 rfl h1) ?_
  refine Eq.trans (X_st f_110_47 rfl rfl) ?_
  refine Eq.trans (X_call f_110_48 (by decide) rfl rfl rfl rfl rfl rfl (Nat.le_of_ble_eq_true rfl) (Nat.le_of_ble_eq_true rfl) (decide_eq_true h2) (Nat.le_of_ble_eq_true rfl)) ?_
  exact mThen_eq fun v w9 => mX_mask rfl
theorem b_110_51 {d : Nat} {x2 : Int32} {b0 : Nat} {w : MW} (h0 : mTg w b0 = 4) (h1 : mE ≤ b0) (h2 : mTg (wI w b0 5 ((mI w b0 5) + x2)) b0 = 4) : mX d 110 51 [mJ, mJ, .int x2, mJ] [.ref b0] w = some (.inl (some (.int (mI (wI w b0 5 ((mI w b0 5) + x2)) b0 5))), wI w b0 5 ((mI w b0 5) + x2)) := by
  refine Eq.trans (X_astore_n (L' := [mJ, mJ, .int x2, .ref b0]) f_110_51 (Nat.le_of_ble_eq_true rfl) rfl) ?_
  refine Eq.trans (X_st f_110_52 rfl rfl) ?_
  refine Eq.trans (X_dup f_110_53 rfl) ?_
  refine Eq.trans (X_getI f_110_54 h0 rfl) ?_
  refine Eq.trans (X_st f_110_57 rfl rfl) ?_
  refine Eq.trans (X_st f_110_58 rfl rfl) ?_
  refine Eq.trans (X_putI f_110_59 h0 h1 rfl rfl) ?_
  refine Eq.trans (X_st f_110_62 rfl rfl) ?_
  refine Eq.trans (X_getI f_110_63 h2 rfl) ?_
  exact X_ireturn f_110_66 rfl
/-! BeeTurnpike go (I)I -/
theorem f_111_0 : mFetch 111 0 = some (.iload_n 1, 1, []) := by decide +kernel
theorem f_111_1 : mFetch 111 1 = some (.iconst 1, 1, []) := by decide +kernel
theorem f_111_2 : mFetch 111 2 = some (.if_icmp .lt 9, 3, [11]) := by decide +kernel
theorem f_111_5 : mFetch 111 5 = some (.iload_n 1, 1, []) := by decide +kernel
theorem f_111_6 : mFetch 111 6 = some (.bipush 60, 2, []) := by decide +kernel
theorem f_111_8 : mFetch 111 8 = some (.if_icmp .le 13, 3, [21]) := by decide +kernel
theorem f_111_21 : mFetch 111 21 = some (.aload_n 0, 1, []) := by decide +kernel
theorem f_111_22 : mFetch 111 22 = some (.getfield 62, 3, [9, 6, 0, 451]) := by decide +kernel
theorem f_111_25 : mFetch 111 25 = some (.iload_n 1, 1, []) := by decide +kernel
theorem f_111_26 : mFetch 111 26 = some (.invokevirtual 215, 3, [17, 2, 2, 0, 662, 663, 664]) := by decide +kernel
theorem f_111_29 : mFetch 111 29 = some (.ireturn, 1, [0]) := by decide +kernel
theorem b_111_0 {d : Nat} {a0 : Nat} {x1 : Int32} {w : MW} : mX d 111 0 [.ref a0, .int x1] [] w = (if x1 < (nI 1) then mX d 111 11 [mJ, mJ] [] w else mX d 111 5 [.ref a0, .int x1] [] w) := by
  refine Eq.trans (X_st f_111_0 rfl rfl) ?_
  refine Eq.trans (X_iconst f_111_1 kc_i_1) ?_
  refine Eq.trans (X_br f_111_2 rfl rfl) ?_
  exact mIte_eq (mX_mask rfl) (mX_mask rfl)
theorem e_111 {d : Nat} {a0 : Nat} {x1 : Int32} {w : MW} : mK d 111 [.ref a0, .int x1] w = mX d 111 0 [.ref a0, .int x1] [] w := rfl
theorem b_111_5 {d : Nat} {a0 : Nat} {x1 : Int32} {w : MW} : mX d 111 5 [.ref a0, .int x1] [] w = (if x1 ≤ (nI 60) then mX d 111 21 [.ref a0, .int x1] [] w else mX d 111 11 [mJ, mJ] [] w) := by
  refine Eq.trans (X_st f_111_5 rfl rfl) ?_
  refine Eq.trans (X_bipush f_111_6 kc_b_60) ?_
  refine Eq.trans (X_br f_111_8 rfl rfl) ?_
  exact mIte_eq (mX_mask rfl) (mX_mask rfl)
theorem b_111_21 {d : Nat} {a0 : Nat} {x1 : Int32} {w : MW} (h0 : mTg w a0 = 9) (h1 : mR w a0 6 = some (gR w a0 6)) (h2 : mTg w (gR w a0 6) = 0) : mX (d + 1) 111 21 [.ref a0, .int x1] [] w = mThen (mK d 17 [.ref (gR w a0 6), .int x1] w) (fun v w9 => mX (d + 1) 111 29 [mJ, mJ] (v.toList ++ []) w9) := by
  refine Eq.trans (X_st f_111_21 rfl rfl) ?_
  refine Eq.trans (X_getR f_111_22 h0 rfl h1) ?_
  refine Eq.trans (X_st f_111_25 rfl rfl) ?_
  refine Eq.trans (X_call f_111_26 (by decide) rfl rfl rfl rfl rfl rfl (Nat.le_of_ble_eq_true rfl) (Nat.le_of_ble_eq_true rfl) (decide_eq_true h2) (Nat.le_of_ble_eq_true rfl)) ?_
  exact mThen_eq fun v w9 => mX_mask rfl
theorem b_111_29 {d : Nat} {y0 : Int32} {w : MW} : mX d 111 29 [mJ, mJ] [.int y0] w = some (.inl (some (.int y0)), w) := by
  exact X_ireturn f_111_29 rfl
/-! BeeTurnpike foresee (II)I -/
theorem f_112_0 : mFetch 112 0 = some (.iload_n 1, 1, []) := by decide +kernel
theorem f_112_1 : mFetch 112 1 = some (.iconst 1, 1, []) := by decide +kernel
theorem f_112_2 : mFetch 112 2 = some (.if_icmp .lt 9, 3, [11]) := by decide +kernel
theorem f_112_5 : mFetch 112 5 = some (.iload_n 1, 1, []) := by decide +kernel
theorem f_112_6 : mFetch 112 6 = some (.bipush 60, 2, []) := by decide +kernel
theorem f_112_8 : mFetch 112 8 = some (.if_icmp .le 13, 3, [21]) := by decide +kernel
theorem f_112_21 : mFetch 112 21 = some (.iload_n 2, 1, []) := by decide +kernel
theorem f_112_22 : mFetch 112 22 = some (.bipush 10, 2, []) := by decide +kernel
theorem f_112_24 : mFetch 112 24 = some (.if_icmp .lt 9, 3, [33]) := by decide +kernel
theorem f_112_27 : mFetch 112 27 = some (.iload_n 2, 1, []) := by decide +kernel
theorem f_112_28 : mFetch 112 28 = some (.bipush 16, 2, []) := by decide +kernel
theorem f_112_30 : mFetch 112 30 = some (.if_icmp .le 13, 3, [43]) := by decide +kernel
theorem f_112_43 : mFetch 112 43 = some (.aload_n 0, 1, []) := by decide +kernel
theorem f_112_44 : mFetch 112 44 = some (.getfield 66, 3, [9, 7, 0, 452]) := by decide +kernel
theorem f_112_47 : mFetch 112 47 = some (.aload_n 0, 1, []) := by decide +kernel
theorem f_112_48 : mFetch 112 48 = some (.getfield 62, 3, [9, 6, 0, 451]) := by decide +kernel
theorem f_112_51 : mFetch 112 51 = some (.invokevirtual 220, 3, [3, 2, 2, 0, 766, 767, 768]) := by decide +kernel
theorem f_112_54 : mFetch 112 54 = some (.aload_n 0, 1, []) := by decide +kernel
theorem f_112_55 : mFetch 112 55 = some (.getfield 66, 3, [9, 7, 0, 452]) := by decide +kernel
theorem f_112_58 : mFetch 112 58 = some (.iload_n 1, 1, []) := by decide +kernel
theorem f_112_59 : mFetch 112 59 = some (.invokevirtual 215, 3, [17, 2, 2, 0, 662, 663, 664]) := by decide +kernel
theorem f_112_62 : mFetch 112 62 = some (.pop, 1, []) := by decide +kernel
theorem f_112_63 : mFetch 112 63 = some (.aload_n 0, 1, []) := by decide +kernel
theorem f_112_64 : mFetch 112 64 = some (.getfield 66, 3, [9, 7, 0, 452]) := by decide +kernel
theorem f_112_67 : mFetch 112 67 = some (.iload_n 2, 1, []) := by decide +kernel
theorem f_112_68 : mFetch 112 68 = some (.invokevirtual 223, 3, [8, 2, 2, 0, 566, 567, 568]) := by decide +kernel
theorem f_112_71 : mFetch 112 71 = some (.ireturn, 1, [0]) := by decide +kernel
theorem b_112_0 {d : Nat} {a0 : Nat} {x1 : Int32} {x2 : Int32} {w : MW} : mX d 112 0 [.ref a0, .int x1, .int x2] [] w = (if x1 < (nI 1) then mX d 112 11 [mJ, mJ, mJ] [] w else mX d 112 5 [.ref a0, .int x1, .int x2] [] w) := by
  refine Eq.trans (X_st f_112_0 rfl rfl) ?_
  refine Eq.trans (X_iconst f_112_1 kc_i_1) ?_
  refine Eq.trans (X_br f_112_2 rfl rfl) ?_
  exact mIte_eq (mX_mask rfl) (mX_mask rfl)
theorem e_112 {d : Nat} {a0 : Nat} {x1 : Int32} {x2 : Int32} {w : MW} : mK d 112 [.ref a0, .int x1, .int x2] w = mX d 112 0 [.ref a0, .int x1, .int x2] [] w := rfl
theorem b_112_5 {d : Nat} {a0 : Nat} {x1 : Int32} {x2 : Int32} {w : MW} : mX d 112 5 [.ref a0, .int x1, .int x2] [] w = (if x1 ≤ (nI 60) then mX d 112 21 [.ref a0, .int x1, .int x2] [] w else mX d 112 11 [mJ, mJ, mJ] [] w) := by
  refine Eq.trans (X_st f_112_5 rfl rfl) ?_
  refine Eq.trans (X_bipush f_112_6 kc_b_60) ?_
  refine Eq.trans (X_br f_112_8 rfl rfl) ?_
  exact mIte_eq (mX_mask rfl) (mX_mask rfl)
theorem b_112_21 {d : Nat} {a0 : Nat} {x1 : Int32} {x2 : Int32} {w : MW} : mX d 112 21 [.ref a0, .int x1, .int x2] [] w = (if x2 < (nI 10) then mX d 112 33 [mJ, mJ, mJ] [] w else mX d 112 27 [.ref a0, .int x1, .int x2] [] w) := by
  refine Eq.trans (X_st f_112_21 rfl rfl) ?_
  refine Eq.trans (X_bipush f_112_22 kc_b_10) ?_
  refine Eq.trans (X_br f_112_24 rfl rfl) ?_
  exact mIte_eq (mX_mask rfl) (mX_mask rfl)
theorem b_112_27 {d : Nat} {a0 : Nat} {x1 : Int32} {x2 : Int32} {w : MW} : mX d 112 27 [.ref a0, .int x1, .int x2] [] w = (if x2 ≤ (nI 16) then mX d 112 43 [.ref a0, .int x1, .int x2] [] w else mX d 112 33 [mJ, mJ, mJ] [] w) := by
  refine Eq.trans (X_st f_112_27 rfl rfl) ?_
  refine Eq.trans (X_bipush f_112_28 kc_b_16) ?_
  refine Eq.trans (X_br f_112_30 rfl rfl) ?_
  exact mIte_eq (mX_mask rfl) (mX_mask rfl)
theorem b_112_43 {d : Nat} {a0 : Nat} {x1 : Int32} {x2 : Int32} {w : MW} (h0 : mTg w a0 = 9) (h1 : mR w a0 7 = some (gR w a0 7)) (h2 : mR w a0 6 = some (gR w a0 6)) (h3 : mTg w (gR w a0 7) = 0) : mX (d + 1) 112 43 [.ref a0, .int x1, .int x2] [] w = mThen (mK d 3 [.ref (gR w a0 7), .ref (gR w a0 6)] w) (fun v w9 => mX (d + 1) 112 54 [.ref a0, .int x1, .int x2] (v.toList ++ []) w9) := by
  refine Eq.trans (X_st f_112_43 rfl rfl) ?_
  refine Eq.trans (X_getR f_112_44 h0 rfl h1) ?_
  refine Eq.trans (X_st f_112_47 rfl rfl) ?_
  refine Eq.trans (X_getR f_112_48 h0 rfl h2) ?_
  refine Eq.trans (X_call f_112_51 (by decide) rfl rfl rfl rfl rfl rfl (Nat.le_of_ble_eq_true rfl) (Nat.le_of_ble_eq_true rfl) (decide_eq_true h3) (Nat.le_of_ble_eq_true rfl)) ?_
  exact mThen_eq fun v w9 => mX_mask rfl
theorem b_112_54 {d : Nat} {a0 : Nat} {x1 : Int32} {x2 : Int32} {w : MW} (h0 : mTg w a0 = 9) (h1 : mR w a0 7 = some (gR w a0 7)) (h2 : mTg w (gR w a0 7) = 0) : mX (d + 1) 112 54 [.ref a0, .int x1, .int x2] [] w = mThen (mK d 17 [.ref (gR w a0 7), .int x1] w) (fun v w9 => mX (d + 1) 112 62 [.ref a0, mJ, .int x2] (v.toList ++ []) w9) := by
  refine Eq.trans (X_st f_112_54 rfl rfl) ?_
  refine Eq.trans (X_getR f_112_55 h0 rfl h1) ?_
  refine Eq.trans (X_st f_112_58 rfl rfl) ?_
  refine Eq.trans (X_call f_112_59 (by decide) rfl rfl rfl rfl rfl rfl (Nat.le_of_ble_eq_true rfl) (Nat.le_of_ble_eq_true rfl) (decide_eq_true h2) (Nat.le_of_ble_eq_true rfl)) ?_
  exact mThen_eq fun v w9 => mX_mask rfl
theorem b_112_62 {d : Nat} {a0 : Nat} {x2 : Int32} {y0 : Int32} {w : MW} (h0 : mTg w a0 = 9) (h1 : mR w a0 7 = some (gR w a0 7)) (h2 : mTg w (gR w a0 7) = 0) : mX (d + 1) 112 62 [.ref a0, mJ, .int x2] [.int y0] w = mThen (mK d 8 [.ref (gR w a0 7), .int x2] w) (fun v w9 => mX (d + 1) 112 71 [mJ, mJ, mJ] (v.toList ++ []) w9) := by
  refine Eq.trans (X_pop f_112_62 rfl) ?_
  refine Eq.trans (X_st f_112_63 rfl rfl) ?_
  refine Eq.trans (X_getR f_112_64 h0 rfl h1) ?_
  refine Eq.trans (X_st f_112_67 rfl rfl) ?_
  refine Eq.trans (X_call f_112_68 (by decide) rfl rfl rfl rfl rfl rfl (Nat.le_of_ble_eq_true rfl) (Nat.le_of_ble_eq_true rfl) (decide_eq_true h2) (Nat.le_of_ble_eq_true rfl)) ?_
  exact mThen_eq fun v w9 => mX_mask rfl
theorem b_112_71 {d : Nat} {y0 : Int32} {w : MW} : mX d 112 71 [mJ, mJ, mJ] [.int y0] w = some (.inl (some (.int y0)), w) := by
  exact X_ireturn f_112_71 rfl
/-! BeeTurnpike until (I)I -/
theorem f_113_0 : mFetch 113 0 = some (.aload_n 0, 1, []) := by decide +kernel
theorem f_113_1 : mFetch 113 1 = some (.getfield 28, 3, [9, 2, 0, 447]) := by decide +kernel
theorem f_113_4 : mFetch 113 4 = some (.iconst 3, 1, []) := by decide +kernel
theorem f_113_5 : mFetch 113 5 = some (.iload_n 1, 1, []) := by decide +kernel
theorem f_113_6 : mFetch 113 6 = some (.invokevirtual 126, 3, [86, 3, 2, 8, 583, 584, 585]) := by decide +kernel
theorem f_113_9 : mFetch 113 9 = some (.ifCond .ne 13, 3, [22]) := by decide +kernel
theorem f_113_22 : mFetch 113 22 = some (.aload_n 0, 1, []) := by decide +kernel
theorem f_113_23 : mFetch 113 23 = some (.getfield 66, 3, [9, 7, 0, 452]) := by decide +kernel
theorem f_113_26 : mFetch 113 26 = some (.aload_n 0, 1, []) := by decide +kernel
theorem f_113_27 : mFetch 113 27 = some (.getfield 62, 3, [9, 6, 0, 451]) := by decide +kernel
theorem f_113_30 : mFetch 113 30 = some (.invokevirtual 220, 3, [3, 2, 2, 0, 766, 767, 768]) := by decide +kernel
theorem f_113_33 : mFetch 113 33 = some (.iconst 0, 1, []) := by decide +kernel
theorem f_113_34 : mFetch 113 34 = some (.istore_n 2, 1, []) := by decide +kernel
theorem f_113_35 : mFetch 113 35 = some (.iload_n 2, 1, []) := by decide +kernel
theorem f_113_36 : mFetch 113 36 = some (.sipush 10000, 3, []) := by decide +kernel
theorem f_113_39 : mFetch 113 39 = some (.if_icmp .ge 42, 3, [81]) := by decide +kernel
theorem f_113_42 : mFetch 113 42 = some (.aload_n 0, 1, []) := by decide +kernel
theorem f_113_43 : mFetch 113 43 = some (.getfield 66, 3, [9, 7, 0, 452]) := by decide +kernel
theorem f_113_46 : mFetch 113 46 = some (.iload_n 1, 1, []) := by decide +kernel
theorem f_113_47 : mFetch 113 47 = some (.invokevirtual 156, 3, [1, 2, 2, 0, 614, 576, 577]) := by decide +kernel
theorem f_113_50 : mFetch 113 50 = some (.getfield 226, 3, [4, 2, 1, 104]) := by decide +kernel
theorem f_113_53 : mFetch 113 53 = some (.ifCond .eq 28, 3, [81]) := by decide +kernel
theorem f_113_56 : mFetch 113 56 = some (.aload_n 0, 1, []) := by decide +kernel
theorem f_113_57 : mFetch 113 57 = some (.getfield 66, 3, [9, 7, 0, 452]) := by decide +kernel
theorem f_113_60 : mFetch 113 60 = some (.invokevirtual 230, 3, [4, 1, 2, 0, 549, 550, 551]) := by decide +kernel
theorem f_113_63 : mFetch 113 63 = some (.ifCond .ne 18, 3, [81]) := by decide +kernel
theorem f_113_66 : mFetch 113 66 = some (.aload_n 0, 1, []) := by decide +kernel
theorem f_113_67 : mFetch 113 67 = some (.getfield 66, 3, [9, 7, 0, 452]) := by decide +kernel
theorem f_113_70 : mFetch 113 70 = some (.iconst 1, 1, []) := by decide +kernel
theorem f_113_71 : mFetch 113 71 = some (.invokevirtual 215, 3, [17, 2, 2, 0, 662, 663, 664]) := by decide +kernel
theorem f_113_74 : mFetch 113 74 = some (.pop, 1, []) := by decide +kernel
theorem f_113_75 : mFetch 113 75 = some (.iinc 2 1, 3, []) := by decide +kernel
theorem f_113_78 : mFetch 113 78 = some (.goto (-43), 3, [35]) := by decide +kernel
theorem f_113_81 : mFetch 113 81 = some (.aload_n 0, 1, []) := by decide +kernel
theorem f_113_82 : mFetch 113 82 = some (.getfield 66, 3, [9, 7, 0, 452]) := by decide +kernel
theorem f_113_85 : mFetch 113 85 = some (.iload_n 1, 1, []) := by decide +kernel
theorem f_113_86 : mFetch 113 86 = some (.invokevirtual 156, 3, [1, 2, 2, 0, 614, 576, 577]) := by decide +kernel
theorem f_113_89 : mFetch 113 89 = some (.getfield 226, 3, [4, 2, 1, 104]) := by decide +kernel
theorem f_113_92 : mFetch 113 92 = some (.ifCond .eq 7, 3, [99]) := by decide +kernel
theorem f_113_95 : mFetch 113 95 = some (.iconst (-1), 1, []) := by decide +kernel
theorem f_113_96 : mFetch 113 96 = some (.goto 4, 3, [100]) := by decide +kernel
theorem f_113_99 : mFetch 113 99 = some (.iload_n 2, 1, []) := by decide +kernel
theorem f_113_100 : mFetch 113 100 = some (.ireturn, 1, [0]) := by decide +kernel
theorem b_113_0 {d : Nat} {a0 : Nat} {x1 : Int32} {w : MW} (h0 : mTg w a0 = 9) (h1 : mR w a0 2 = some (gR w a0 2)) (h2 : mTg w (gR w a0 2) = 8) : mX (d + 1) 113 0 [.ref a0, .int x1, mJ] [] w = mThen (mK d 86 [.ref (gR w a0 2), .int (nI 3), .int x1] w) (fun v w9 => mX (d + 1) 113 9 [.ref a0, .int x1, mJ] (v.toList ++ []) w9) := by
  refine Eq.trans (X_st f_113_0 rfl rfl) ?_
  refine Eq.trans (X_getR f_113_1 h0 rfl h1) ?_
  refine Eq.trans (X_iconst f_113_4 kc_i_3) ?_
  refine Eq.trans (X_st f_113_5 rfl rfl) ?_
  refine Eq.trans (X_call f_113_6 (by decide) rfl rfl rfl rfl rfl rfl (Nat.le_of_ble_eq_true rfl) (Nat.le_of_ble_eq_true rfl) (decide_eq_true h2) (Nat.le_of_ble_eq_true rfl)) ?_
  exact mThen_eq fun v w9 => mX_mask rfl
theorem e_113 {d : Nat} {a0 : Nat} {x1 : Int32} {w : MW} : mK d 113 [.ref a0, .int x1] w = mX d 113 0 [.ref a0, .int x1, mJ] [] w := rfl
theorem b_113_9 {d : Nat} {a0 : Nat} {x1 : Int32} {y0 : Int32} {w : MW} : mX d 113 9 [.ref a0, .int x1, mJ] [.int y0] w = (if ¬ y0 = nI 0 then mX d 113 22 [.ref a0, .int x1, mJ] [] w else mX d 113 12 [mJ, mJ, mJ] [] w) := by
  refine Eq.trans (X_br f_113_9 rfl rfl) ?_
  exact mIte_eq (mX_mask rfl) (mX_mask rfl)
theorem b_113_22 {d : Nat} {a0 : Nat} {x1 : Int32} {w : MW} (h0 : mTg w a0 = 9) (h1 : mR w a0 7 = some (gR w a0 7)) (h2 : mR w a0 6 = some (gR w a0 6)) (h3 : mTg w (gR w a0 7) = 0) : mX (d + 1) 113 22 [.ref a0, .int x1, mJ] [] w = mThen (mK d 3 [.ref (gR w a0 7), .ref (gR w a0 6)] w) (fun v w9 => mX (d + 1) 113 33 [.ref a0, .int x1, mJ] (v.toList ++ []) w9) := by
  refine Eq.trans (X_st f_113_22 rfl rfl) ?_
  refine Eq.trans (X_getR f_113_23 h0 rfl h1) ?_
  refine Eq.trans (X_st f_113_26 rfl rfl) ?_
  refine Eq.trans (X_getR f_113_27 h0 rfl h2) ?_
  refine Eq.trans (X_call f_113_30 (by decide) rfl rfl rfl rfl rfl rfl (Nat.le_of_ble_eq_true rfl) (Nat.le_of_ble_eq_true rfl) (decide_eq_true h3) (Nat.le_of_ble_eq_true rfl)) ?_
  exact mThen_eq fun v w9 => mX_mask rfl
theorem b_113_33 {d : Nat} {a0 : Nat} {x1 : Int32} {w : MW} : mX d 113 33 [.ref a0, .int x1, mJ] [] w = mX d 113 35 [.ref a0, .int x1, .int (nI 0)] [] w := by
  refine Eq.trans (X_iconst f_113_33 kc_i_0) ?_
  refine Eq.trans (X_istore_n (L' := [.ref a0, .int x1, .int (nI 0)]) f_113_34 (Nat.le_of_ble_eq_true rfl) rfl) ?_
  exact mX_mask rfl
theorem b_113_35 {d : Nat} {a0 : Nat} {x1 : Int32} {x2 : Int32} {w : MW} : mX d 113 35 [.ref a0, .int x1, .int x2] [] w = (if (nI 10000) ≤ x2 then mX d 113 81 [.ref a0, .int x1, .int x2] [] w else mX d 113 42 [.ref a0, .int x1, .int x2] [] w) := by
  refine Eq.trans (X_st f_113_35 rfl rfl) ?_
  refine Eq.trans (X_sipush f_113_36 kc_s_10000) ?_
  refine Eq.trans (X_br f_113_39 rfl rfl) ?_
  exact mIte_eq (mX_mask rfl) (mX_mask rfl)
theorem b_113_42 {d : Nat} {a0 : Nat} {x1 : Int32} {x2 : Int32} {w : MW} (h0 : mTg w a0 = 9) (h1 : mR w a0 7 = some (gR w a0 7)) (h2 : mTg w (gR w a0 7) = 0) : mX (d + 1) 113 42 [.ref a0, .int x1, .int x2] [] w = mThen (mK d 1 [.ref (gR w a0 7), .int x1] w) (fun v w9 => mX (d + 1) 113 50 [.ref a0, .int x1, .int x2] (v.toList ++ []) w9) := by
  refine Eq.trans (X_st f_113_42 rfl rfl) ?_
  refine Eq.trans (X_getR f_113_43 h0 rfl h1) ?_
  refine Eq.trans (X_st f_113_46 rfl rfl) ?_
  refine Eq.trans (X_call f_113_47 (by decide) rfl rfl rfl rfl rfl rfl (Nat.le_of_ble_eq_true rfl) (Nat.le_of_ble_eq_true rfl) (decide_eq_true h2) (Nat.le_of_ble_eq_true rfl)) ?_
  exact mThen_eq fun v w9 => mX_mask rfl
theorem b_113_50 {d : Nat} {a0 : Nat} {x1 : Int32} {x2 : Int32} {b0 : Nat} {w : MW} (h0 : mTg w b0 = 4) : mX d 113 50 [.ref a0, .int x1, .int x2] [.ref b0] w = (if (mI w b0 2) = nI 0 then mX d 113 81 [.ref a0, .int x1, .int x2] [] w else mX d 113 56 [.ref a0, .int x1, .int x2] [] w) := by
  refine Eq.trans (X_getI f_113_50 h0 rfl) ?_
  refine Eq.trans (X_br f_113_53 rfl rfl) ?_
  exact mIte_eq (mX_mask rfl) (mX_mask rfl)
theorem b_113_56 {d : Nat} {a0 : Nat} {x1 : Int32} {x2 : Int32} {w : MW} (h0 : mTg w a0 = 9) (h1 : mR w a0 7 = some (gR w a0 7)) (h2 : mTg w (gR w a0 7) = 0) : mX (d + 1) 113 56 [.ref a0, .int x1, .int x2] [] w = mThen (mK d 4 [.ref (gR w a0 7)] w) (fun v w9 => mX (d + 1) 113 63 [.ref a0, .int x1, .int x2] (v.toList ++ []) w9) := by
  refine Eq.trans (X_st f_113_56 rfl rfl) ?_
  refine Eq.trans (X_getR f_113_57 h0 rfl h1) ?_
  refine Eq.trans (X_call f_113_60 (by decide) rfl rfl rfl rfl rfl rfl (Nat.le_of_ble_eq_true rfl) (Nat.le_of_ble_eq_true rfl) (decide_eq_true h2) (Nat.le_of_ble_eq_true rfl)) ?_
  exact mThen_eq fun v w9 => mX_mask rfl
theorem b_113_63 {d : Nat} {a0 : Nat} {x1 : Int32} {x2 : Int32} {y0 : Int32} {w : MW} : mX d 113 63 [.ref a0, .int x1, .int x2] [.int y0] w = (if ¬ y0 = nI 0 then mX d 113 81 [.ref a0, .int x1, .int x2] [] w else mX d 113 66 [.ref a0, .int x1, .int x2] [] w) := by
  refine Eq.trans (X_br f_113_63 rfl rfl) ?_
  exact mIte_eq (mX_mask rfl) (mX_mask rfl)
theorem b_113_66 {d : Nat} {a0 : Nat} {x1 : Int32} {x2 : Int32} {w : MW} (h0 : mTg w a0 = 9) (h1 : mR w a0 7 = some (gR w a0 7)) (h2 : mTg w (gR w a0 7) = 0) : mX (d + 1) 113 66 [.ref a0, .int x1, .int x2] [] w = mThen (mK d 17 [.ref (gR w a0 7), .int (nI 1)] w) (fun v w9 => mX (d + 1) 113 74 [.ref a0, .int x1, .int x2] (v.toList ++ []) w9) := by
  refine Eq.trans (X_st f_113_66 rfl rfl) ?_
  refine Eq.trans (X_getR f_113_67 h0 rfl h1) ?_
  refine Eq.trans (X_iconst f_113_70 kc_i_1) ?_
  refine Eq.trans (X_call f_113_71 (by decide) rfl rfl rfl rfl rfl rfl (Nat.le_of_ble_eq_true rfl) (Nat.le_of_ble_eq_true rfl) (decide_eq_true h2) (Nat.le_of_ble_eq_true rfl)) ?_
  exact mThen_eq fun v w9 => mX_mask rfl
theorem b_113_74 {d : Nat} {a0 : Nat} {x1 : Int32} {x2 : Int32} {y0 : Int32} {w : MW} : mX d 113 74 [.ref a0, .int x1, .int x2] [.int y0] w = mX d 113 35 [.ref a0, .int x1, .int (x2 + (nI 1))] [] w := by
  refine Eq.trans (X_pop f_113_74 rfl) ?_
  refine Eq.trans (X_iinc f_113_75 kc_i_1 rfl rfl) ?_
  refine Eq.trans (X_st f_113_78 rfl rfl) ?_
  exact mX_mask rfl
theorem b_113_81 {d : Nat} {a0 : Nat} {x1 : Int32} {x2 : Int32} {w : MW} (h0 : mTg w a0 = 9) (h1 : mR w a0 7 = some (gR w a0 7)) (h2 : mTg w (gR w a0 7) = 0) : mX (d + 1) 113 81 [.ref a0, .int x1, .int x2] [] w = mThen (mK d 1 [.ref (gR w a0 7), .int x1] w) (fun v w9 => mX (d + 1) 113 89 [mJ, mJ, .int x2] (v.toList ++ []) w9) := by
  refine Eq.trans (X_st f_113_81 rfl rfl) ?_
  refine Eq.trans (X_getR f_113_82 h0 rfl h1) ?_
  refine Eq.trans (X_st f_113_85 rfl rfl) ?_
  refine Eq.trans (X_call f_113_86 (by decide) rfl rfl rfl rfl rfl rfl (Nat.le_of_ble_eq_true rfl) (Nat.le_of_ble_eq_true rfl) (decide_eq_true h2) (Nat.le_of_ble_eq_true rfl)) ?_
  exact mThen_eq fun v w9 => mX_mask rfl
theorem b_113_89 {d : Nat} {x2 : Int32} {b0 : Nat} {w : MW} (h0 : mTg w b0 = 4) : mX d 113 89 [mJ, mJ, .int x2] [.ref b0] w = (if (mI w b0 2) = nI 0 then mX d 113 99 [mJ, mJ, .int x2] [] w else mX d 113 95 [mJ, mJ, mJ] [] w) := by
  refine Eq.trans (X_getI f_113_89 h0 rfl) ?_
  refine Eq.trans (X_br f_113_92 rfl rfl) ?_
  exact mIte_eq (mX_mask rfl) (mX_mask rfl)
theorem b_113_95 {d : Nat} {w : MW} : mX d 113 95 [mJ, mJ, mJ] [] w = mX d 113 100 [mJ, mJ, mJ] [.int (-1 : Int32)] w := by
  refine Eq.trans (X_iconst f_113_95 kc_i_m1) ?_
  refine Eq.trans (X_st f_113_96 rfl rfl) ?_
  exact mX_mask rfl
theorem b_113_99 {d : Nat} {x2 : Int32} {w : MW} : mX d 113 99 [mJ, mJ, .int x2] [] w = mX d 113 100 [mJ, mJ, mJ] [.int x2] w := by
  refine Eq.trans (X_st f_113_99 rfl rfl) ?_
  exact mX_mask rfl
theorem b_113_100 {d : Nat} {y0 : Int32} {w : MW} : mX d 113 100 [mJ, mJ, mJ] [.int y0] w = some (.inl (some (.int y0)), w) := by
  exact X_ireturn f_113_100 rfl
/-! BeeTurnpike winner ()I -/
theorem f_114_0 : mFetch 114 0 = some (.aload_n 0, 1, []) := by decide +kernel
theorem f_114_1 : mFetch 114 1 = some (.getfield 66, 3, [9, 7, 0, 452]) := by decide +kernel
theorem f_114_4 : mFetch 114 4 = some (.aload_n 0, 1, []) := by decide +kernel
theorem f_114_5 : mFetch 114 5 = some (.getfield 62, 3, [9, 6, 0, 451]) := by decide +kernel
theorem f_114_8 : mFetch 114 8 = some (.invokevirtual 220, 3, [3, 2, 2, 0, 766, 767, 768]) := by decide +kernel
theorem f_114_11 : mFetch 114 11 = some (.aload_n 0, 1, []) := by decide +kernel
theorem f_114_12 : mFetch 114 12 = some (.getfield 66, 3, [9, 7, 0, 452]) := by decide +kernel
theorem f_114_15 : mFetch 114 15 = some (.sipush 10000, 3, []) := by decide +kernel
theorem f_114_18 : mFetch 114 18 = some (.invokevirtual 215, 3, [17, 2, 2, 0, 662, 663, 664]) := by decide +kernel
theorem f_114_21 : mFetch 114 21 = some (.pop, 1, []) := by decide +kernel
theorem f_114_22 : mFetch 114 22 = some (.iconst 0, 1, []) := by decide +kernel
theorem f_114_23 : mFetch 114 23 = some (.istore_n 1, 1, []) := by decide +kernel
theorem f_114_24 : mFetch 114 24 = some (.iload_n 1, 1, []) := by decide +kernel
theorem f_114_25 : mFetch 114 25 = some (.aload_n 0, 1, []) := by decide +kernel
theorem f_114_26 : mFetch 114 26 = some (.getfield 28, 3, [9, 2, 0, 447]) := by decide +kernel
theorem f_114_29 : mFetch 114 29 = some (.iconst 3, 1, []) := by decide +kernel
theorem f_114_30 : mFetch 114 30 = some (.invokevirtual 234, 3, [85, 2, 2, 8, 561, 562, 563]) := by decide +kernel
theorem f_114_33 : mFetch 114 33 = some (.if_icmp .ge 22, 3, [55]) := by decide +kernel
theorem f_114_36 : mFetch 114 36 = some (.aload_n 0, 1, []) := by decide +kernel
theorem f_114_37 : mFetch 114 37 = some (.getfield 66, 3, [9, 7, 0, 452]) := by decide +kernel
theorem f_114_40 : mFetch 114 40 = some (.iload_n 1, 1, []) := by decide +kernel
theorem f_114_41 : mFetch 114 41 = some (.invokevirtual 235, 3, [9, 2, 2, 0, 615, 616, 617]) := by decide +kernel
theorem f_114_44 : mFetch 114 44 = some (.ifCond .ne 5, 3, [49]) := by decide +kernel
theorem f_114_47 : mFetch 114 47 = some (.iload_n 1, 1, []) := by decide +kernel
theorem f_114_48 : mFetch 114 48 = some (.ireturn, 1, [0]) := by decide +kernel
theorem f_114_49 : mFetch 114 49 = some (.iinc 1 1, 3, []) := by decide +kernel
theorem f_114_52 : mFetch 114 52 = some (.goto (-28), 3, [24]) := by decide +kernel
theorem f_114_55 : mFetch 114 55 = some (.iconst (-1), 1, []) := by decide +kernel
theorem f_114_56 : mFetch 114 56 = some (.ireturn, 1, [0]) := by decide +kernel
theorem b_114_0 {d : Nat} {a0 : Nat} {w : MW} (h0 : mTg w a0 = 9) (h1 : mR w a0 7 = some (gR w a0 7)) (h2 : mR w a0 6 = some (gR w a0 6)) (h3 : mTg w (gR w a0 7) = 0) : mX (d + 1) 114 0 [.ref a0, mJ] [] w = mThen (mK d 3 [.ref (gR w a0 7), .ref (gR w a0 6)] w) (fun v w9 => mX (d + 1) 114 11 [.ref a0, mJ] (v.toList ++ []) w9) := by
  refine Eq.trans (X_st f_114_0 rfl rfl) ?_
  refine Eq.trans (X_getR f_114_1 h0 rfl h1) ?_
  refine Eq.trans (X_st f_114_4 rfl rfl) ?_
  refine Eq.trans (X_getR f_114_5 h0 rfl h2) ?_
  refine Eq.trans (X_call f_114_8 (by decide) rfl rfl rfl rfl rfl rfl (Nat.le_of_ble_eq_true rfl) (Nat.le_of_ble_eq_true rfl) (decide_eq_true h3) (Nat.le_of_ble_eq_true rfl)) ?_
  exact mThen_eq fun v w9 => mX_mask rfl
theorem e_114 {d : Nat} {a0 : Nat} {w : MW} : mK d 114 [.ref a0] w = mX d 114 0 [.ref a0, mJ] [] w := rfl
theorem b_114_11 {d : Nat} {a0 : Nat} {w : MW} (h0 : mTg w a0 = 9) (h1 : mR w a0 7 = some (gR w a0 7)) (h2 : mTg w (gR w a0 7) = 0) : mX (d + 1) 114 11 [.ref a0, mJ] [] w = mThen (mK d 17 [.ref (gR w a0 7), .int (nI 10000)] w) (fun v w9 => mX (d + 1) 114 21 [.ref a0, mJ] (v.toList ++ []) w9) := by
  refine Eq.trans (X_st f_114_11 rfl rfl) ?_
  refine Eq.trans (X_getR f_114_12 h0 rfl h1) ?_
  refine Eq.trans (X_sipush f_114_15 kc_s_10000) ?_
  refine Eq.trans (X_call f_114_18 (by decide) rfl rfl rfl rfl rfl rfl (Nat.le_of_ble_eq_true rfl) (Nat.le_of_ble_eq_true rfl) (decide_eq_true h2) (Nat.le_of_ble_eq_true rfl)) ?_
  exact mThen_eq fun v w9 => mX_mask rfl
theorem b_114_21 {d : Nat} {a0 : Nat} {y0 : Int32} {w : MW} : mX d 114 21 [.ref a0, mJ] [.int y0] w = mX d 114 24 [.ref a0, .int (nI 0)] [] w := by
  refine Eq.trans (X_pop f_114_21 rfl) ?_
  refine Eq.trans (X_iconst f_114_22 kc_i_0) ?_
  refine Eq.trans (X_istore_n (L' := [.ref a0, .int (nI 0)]) f_114_23 (Nat.le_of_ble_eq_true rfl) rfl) ?_
  exact mX_mask rfl
theorem b_114_24 {d : Nat} {a0 : Nat} {x1 : Int32} {w : MW} (h0 : mTg w a0 = 9) (h1 : mR w a0 2 = some (gR w a0 2)) (h2 : mTg w (gR w a0 2) = 8) : mX (d + 1) 114 24 [.ref a0, .int x1] [] w = mThen (mK d 85 [.ref (gR w a0 2), .int (nI 3)] w) (fun v w9 => mX (d + 1) 114 33 [.ref a0, .int x1] (v.toList ++ [.int x1]) w9) := by
  refine Eq.trans (X_st f_114_24 rfl rfl) ?_
  refine Eq.trans (X_st f_114_25 rfl rfl) ?_
  refine Eq.trans (X_getR f_114_26 h0 rfl h1) ?_
  refine Eq.trans (X_iconst f_114_29 kc_i_3) ?_
  refine Eq.trans (X_call f_114_30 (by decide) rfl rfl rfl rfl rfl rfl (Nat.le_of_ble_eq_true rfl) (Nat.le_of_ble_eq_true rfl) (decide_eq_true h2) (Nat.le_of_ble_eq_true rfl)) ?_
  exact mThen_eq fun v w9 => mX_mask rfl
theorem b_114_33 {d : Nat} {a0 : Nat} {x1 : Int32} {y0 : Int32} {y1 : Int32} {w : MW} : mX d 114 33 [.ref a0, .int x1] [.int y0, .int y1] w = (if y0 ≤ y1 then mX d 114 55 [mJ, mJ] [] w else mX d 114 36 [.ref a0, .int x1] [] w) := by
  refine Eq.trans (X_br f_114_33 rfl rfl) ?_
  exact mIte_eq (mX_mask rfl) (mX_mask rfl)
theorem b_114_36 {d : Nat} {a0 : Nat} {x1 : Int32} {w : MW} (h0 : mTg w a0 = 9) (h1 : mR w a0 7 = some (gR w a0 7)) (h2 : mTg w (gR w a0 7) = 0) : mX (d + 1) 114 36 [.ref a0, .int x1] [] w = mThen (mK d 9 [.ref (gR w a0 7), .int x1] w) (fun v w9 => mX (d + 1) 114 44 [.ref a0, .int x1] (v.toList ++ []) w9) := by
  refine Eq.trans (X_st f_114_36 rfl rfl) ?_
  refine Eq.trans (X_getR f_114_37 h0 rfl h1) ?_
  refine Eq.trans (X_st f_114_40 rfl rfl) ?_
  refine Eq.trans (X_call f_114_41 (by decide) rfl rfl rfl rfl rfl rfl (Nat.le_of_ble_eq_true rfl) (Nat.le_of_ble_eq_true rfl) (decide_eq_true h2) (Nat.le_of_ble_eq_true rfl)) ?_
  exact mThen_eq fun v w9 => mX_mask rfl
theorem b_114_44 {d : Nat} {a0 : Nat} {x1 : Int32} {y0 : Int32} {w : MW} : mX d 114 44 [.ref a0, .int x1] [.int y0] w = (if ¬ y0 = nI 0 then mX d 114 49 [.ref a0, .int x1] [] w else mX d 114 47 [mJ, .int x1] [] w) := by
  refine Eq.trans (X_br f_114_44 rfl rfl) ?_
  exact mIte_eq (mX_mask rfl) (mX_mask rfl)
theorem b_114_47 {d : Nat} {x1 : Int32} {w : MW} : mX d 114 47 [mJ, .int x1] [] w = some (.inl (some (.int x1)), w) := by
  refine Eq.trans (X_st f_114_47 rfl rfl) ?_
  exact X_ireturn f_114_48 rfl
theorem b_114_49 {d : Nat} {a0 : Nat} {x1 : Int32} {w : MW} : mX d 114 49 [.ref a0, .int x1] [] w = mX d 114 24 [.ref a0, .int (x1 + (nI 1))] [] w := by
  refine Eq.trans (X_iinc f_114_49 kc_i_1 rfl rfl) ?_
  refine Eq.trans (X_st f_114_52 rfl rfl) ?_
  exact mX_mask rfl
theorem b_114_55 {d : Nat} {w : MW} : mX d 114 55 [mJ, mJ] [] w = some (.inl (some (.int (-1 : Int32))), w) := by
  refine Eq.trans (X_iconst f_114_55 kc_i_m1) ?_
  exact X_ireturn f_114_56 rfl
/-! BeeTurnpike advise ()I -/
theorem f_115_0 : mFetch 115 0 = some (.aload_n 0, 1, []) := by decide +kernel
theorem f_115_1 : mFetch 115 1 = some (.getfield 62, 3, [9, 6, 0, 451]) := by decide +kernel
theorem f_115_4 : mFetch 115 4 = some (.invokevirtual 230, 3, [4, 1, 2, 0, 549, 550, 551]) := by decide +kernel
theorem f_115_7 : mFetch 115 7 = some (.ifCond .eq 5, 3, [12]) := by decide +kernel
theorem f_115_10 : mFetch 115 10 = some (.iconst (-1), 1, []) := by decide +kernel
theorem f_115_11 : mFetch 115 11 = some (.ireturn, 1, [0]) := by decide +kernel
theorem f_115_12 : mFetch 115 12 = some (.iconst 0, 1, []) := by decide +kernel
theorem f_115_13 : mFetch 115 13 = some (.istore_n 1, 1, []) := by decide +kernel
theorem f_115_14 : mFetch 115 14 = some (.bipush 6, 2, []) := by decide +kernel
theorem f_115_16 : mFetch 115 16 = some (.istore_n 2, 1, []) := by decide +kernel
theorem f_115_17 : mFetch 115 17 = some (.iconst 0, 1, []) := by decide +kernel
theorem f_115_18 : mFetch 115 18 = some (.istore_n 3, 1, []) := by decide +kernel
theorem f_115_19 : mFetch 115 19 = some (.iload_n 3, 1, []) := by decide +kernel
theorem f_115_20 : mFetch 115 20 = some (.iconst 2, 1, []) := by decide +kernel
theorem f_115_21 : mFetch 115 21 = some (.if_icmp .gt 77, 3, [98]) := by decide +kernel
theorem f_115_24 : mFetch 115 24 = some (.aload_n 0, 1, []) := by decide +kernel
theorem f_115_25 : mFetch 115 25 = some (.getfield 62, 3, [9, 6, 0, 451]) := by decide +kernel
theorem f_115_28 : mFetch 115 28 = some (.iload_n 3, 1, []) := by decide +kernel
theorem f_115_29 : mFetch 115 29 = some (.invokevirtual 175, 3, [12, 2, 2, 0, 795, 675, 676]) := by decide +kernel
theorem f_115_32 : mFetch 115 32 = some (.ifCond .eq 60, 3, [92]) := by decide +kernel
theorem f_115_35 : mFetch 115 35 = some (.aload_n 0, 1, []) := by decide +kernel
theorem f_115_36 : mFetch 115 36 = some (.getfield 66, 3, [9, 7, 0, 452]) := by decide +kernel
theorem f_115_39 : mFetch 115 39 = some (.aload_n 0, 1, []) := by decide +kernel
theorem f_115_40 : mFetch 115 40 = some (.getfield 62, 3, [9, 6, 0, 451]) := by decide +kernel
theorem f_115_43 : mFetch 115 43 = some (.invokevirtual 220, 3, [3, 2, 2, 0, 766, 767, 768]) := by decide +kernel
theorem f_115_46 : mFetch 115 46 = some (.aload_n 0, 1, []) := by decide +kernel
theorem f_115_47 : mFetch 115 47 = some (.getfield 66, 3, [9, 7, 0, 452]) := by decide +kernel
theorem f_115_50 : mFetch 115 50 = some (.iload_n 3, 1, []) := by decide +kernel
theorem f_115_51 : mFetch 115 51 = some (.invokevirtual 238, 3, [13, 2, 2, 0, 796, 797, 798]) := by decide +kernel
theorem f_115_54 : mFetch 115 54 = some (.aload_n 0, 1, []) := by decide +kernel
theorem f_115_55 : mFetch 115 55 = some (.getfield 66, 3, [9, 7, 0, 452]) := by decide +kernel
theorem f_115_58 : mFetch 115 58 = some (.sipush 10000, 3, []) := by decide +kernel
theorem f_115_61 : mFetch 115 61 = some (.invokevirtual 215, 3, [17, 2, 2, 0, 662, 663, 664]) := by decide +kernel
theorem f_115_64 : mFetch 115 64 = some (.pop, 1, []) := by decide +kernel
theorem f_115_65 : mFetch 115 65 = some (.aload_n 0, 1, []) := by decide +kernel
theorem f_115_66 : mFetch 115 66 = some (.getfield 66, 3, [9, 7, 0, 452]) := by decide +kernel
theorem f_115_69 : mFetch 115 69 = some (.aload_n 0, 1, []) := by decide +kernel
theorem f_115_70 : mFetch 115 70 = some (.getfield 62, 3, [9, 6, 0, 451]) := by decide +kernel
theorem f_115_73 : mFetch 115 73 = some (.getfield 184, 3, [0, 11, 1, 102]) := by decide +kernel
theorem f_115_76 : mFetch 115 76 = some (.invokevirtual 235, 3, [9, 2, 2, 0, 615, 616, 617]) := by decide +kernel
theorem f_115_79 : mFetch 115 79 = some (.istore 4, 2, []) := by decide +kernel
theorem f_115_81 : mFetch 115 81 = some (.iload 4, 2, []) := by decide +kernel
theorem f_115_83 : mFetch 115 83 = some (.iload_n 2, 1, []) := by decide +kernel
theorem f_115_84 : mFetch 115 84 = some (.if_icmp .ge 8, 3, [92]) := by decide +kernel
theorem f_115_87 : mFetch 115 87 = some (.iload_n 3, 1, []) := by decide +kernel
theorem f_115_88 : mFetch 115 88 = some (.istore_n 1, 1, []) := by decide +kernel
theorem f_115_89 : mFetch 115 89 = some (.iload 4, 2, []) := by decide +kernel
theorem f_115_91 : mFetch 115 91 = some (.istore_n 2, 1, []) := by decide +kernel
theorem f_115_92 : mFetch 115 92 = some (.iinc 3 1, 3, []) := by decide +kernel
theorem f_115_95 : mFetch 115 95 = some (.goto (-76), 3, [19]) := by decide +kernel
theorem f_115_98 : mFetch 115 98 = some (.iload_n 1, 1, []) := by decide +kernel
theorem f_115_99 : mFetch 115 99 = some (.ireturn, 1, [0]) := by decide +kernel
theorem b_115_0 {d : Nat} {a0 : Nat} {w : MW} (h0 : mTg w a0 = 9) (h1 : mR w a0 6 = some (gR w a0 6)) (h2 : mTg w (gR w a0 6) = 0) : mX (d + 1) 115 0 [.ref a0, mJ, mJ, mJ, mJ] [] w = mThen (mK d 4 [.ref (gR w a0 6)] w) (fun v w9 => mX (d + 1) 115 7 [.ref a0, mJ, mJ, mJ, mJ] (v.toList ++ []) w9) := by
  refine Eq.trans (X_st f_115_0 rfl rfl) ?_
  refine Eq.trans (X_getR f_115_1 h0 rfl h1) ?_
  refine Eq.trans (X_call f_115_4 (by decide) rfl rfl rfl rfl rfl rfl (Nat.le_of_ble_eq_true rfl) (Nat.le_of_ble_eq_true rfl) (decide_eq_true h2) (Nat.le_of_ble_eq_true rfl)) ?_
  exact mThen_eq fun v w9 => mX_mask rfl
theorem e_115 {d : Nat} {a0 : Nat} {w : MW} : mK d 115 [.ref a0] w = mX d 115 0 [.ref a0, mJ, mJ, mJ, mJ] [] w := rfl
theorem b_115_7 {d : Nat} {a0 : Nat} {y0 : Int32} {w : MW} : mX d 115 7 [.ref a0, mJ, mJ, mJ, mJ] [.int y0] w = (if y0 = nI 0 then mX d 115 12 [.ref a0, mJ, mJ, mJ, mJ] [] w else mX d 115 10 [mJ, mJ, mJ, mJ, mJ] [] w) := by
  refine Eq.trans (X_br f_115_7 rfl rfl) ?_
  exact mIte_eq (mX_mask rfl) (mX_mask rfl)
theorem b_115_10 {d : Nat} {w : MW} : mX d 115 10 [mJ, mJ, mJ, mJ, mJ] [] w = some (.inl (some (.int (-1 : Int32))), w) := by
  refine Eq.trans (X_iconst f_115_10 kc_i_m1) ?_
  exact X_ireturn f_115_11 rfl
theorem b_115_12 {d : Nat} {a0 : Nat} {w : MW} : mX d 115 12 [.ref a0, mJ, mJ, mJ, mJ] [] w = mX d 115 19 [.ref a0, .int (nI 0), .int (nI 6), .int (nI 0), mJ] [] w := by
  refine Eq.trans (X_iconst f_115_12 kc_i_0) ?_
  refine Eq.trans (X_istore_n (L' := [.ref a0, .int (nI 0), mJ, mJ, mJ]) f_115_13 (Nat.le_of_ble_eq_true rfl) rfl) ?_
  refine Eq.trans (X_bipush f_115_14 kc_b_6) ?_
  refine Eq.trans (X_istore_n (L' := [.ref a0, .int (nI 0), .int (nI 6), mJ, mJ]) f_115_16 (Nat.le_of_ble_eq_true rfl) rfl) ?_
  refine Eq.trans (X_iconst f_115_17 kc_i_0) ?_
  refine Eq.trans (X_istore_n (L' := [.ref a0, .int (nI 0), .int (nI 6), .int (nI 0), mJ]) f_115_18 (Nat.le_of_ble_eq_true rfl) rfl) ?_
  exact mX_mask rfl
theorem b_115_19 {d : Nat} {a0 : Nat} {x1 : Int32} {x2 : Int32} {x3 : Int32} {w : MW} : mX d 115 19 [.ref a0, .int x1, .int x2, .int x3, mJ] [] w = (if (nI 2) < x3 then mX d 115 98 [mJ, .int x1, mJ, mJ, mJ] [] w else mX d 115 24 [.ref a0, .int x1, .int x2, .int x3, mJ] [] w) := by
  refine Eq.trans (X_st f_115_19 rfl rfl) ?_
  refine Eq.trans (X_iconst f_115_20 kc_i_2) ?_
  refine Eq.trans (X_br f_115_21 rfl rfl) ?_
  exact mIte_eq (mX_mask rfl) (mX_mask rfl)
theorem b_115_24 {d : Nat} {a0 : Nat} {x1 : Int32} {x2 : Int32} {x3 : Int32} {w : MW} (h0 : mTg w a0 = 9) (h1 : mR w a0 6 = some (gR w a0 6)) (h2 : mTg w (gR w a0 6) = 0) : mX (d + 1) 115 24 [.ref a0, .int x1, .int x2, .int x3, mJ] [] w = mThen (mK d 12 [.ref (gR w a0 6), .int x3] w) (fun v w9 => mX (d + 1) 115 32 [.ref a0, .int x1, .int x2, .int x3, mJ] (v.toList ++ []) w9) := by
  refine Eq.trans (X_st f_115_24 rfl rfl) ?_
  refine Eq.trans (X_getR f_115_25 h0 rfl h1) ?_
  refine Eq.trans (X_st f_115_28 rfl rfl) ?_
  refine Eq.trans (X_call f_115_29 (by decide) rfl rfl rfl rfl rfl rfl (Nat.le_of_ble_eq_true rfl) (Nat.le_of_ble_eq_true rfl) (decide_eq_true h2) (Nat.le_of_ble_eq_true rfl)) ?_
  exact mThen_eq fun v w9 => mX_mask rfl
theorem b_115_32 {d : Nat} {a0 : Nat} {x1 : Int32} {x2 : Int32} {x3 : Int32} {y0 : Int32} {w : MW} : mX d 115 32 [.ref a0, .int x1, .int x2, .int x3, mJ] [.int y0] w = (if y0 = nI 0 then mX d 115 92 [.ref a0, .int x1, .int x2, .int x3, mJ] [] w else mX d 115 35 [.ref a0, .int x1, .int x2, .int x3, mJ] [] w) := by
  refine Eq.trans (X_br f_115_32 rfl rfl) ?_
  exact mIte_eq (mX_mask rfl) (mX_mask rfl)
theorem b_115_35 {d : Nat} {a0 : Nat} {x1 : Int32} {x2 : Int32} {x3 : Int32} {w : MW} (h0 : mTg w a0 = 9) (h1 : mR w a0 7 = some (gR w a0 7)) (h2 : mR w a0 6 = some (gR w a0 6)) (h3 : mTg w (gR w a0 7) = 0) : mX (d + 1) 115 35 [.ref a0, .int x1, .int x2, .int x3, mJ] [] w = mThen (mK d 3 [.ref (gR w a0 7), .ref (gR w a0 6)] w) (fun v w9 => mX (d + 1) 115 46 [.ref a0, .int x1, .int x2, .int x3, mJ] (v.toList ++ []) w9) := by
  refine Eq.trans (X_st f_115_35 rfl rfl) ?_
  refine Eq.trans (X_getR f_115_36 h0 rfl h1) ?_
  refine Eq.trans (X_st f_115_39 rfl rfl) ?_
  refine Eq.trans (X_getR f_115_40 h0 rfl h2) ?_
  refine Eq.trans (X_call f_115_43 (by decide) rfl rfl rfl rfl rfl rfl (Nat.le_of_ble_eq_true rfl) (Nat.le_of_ble_eq_true rfl) (decide_eq_true h3) (Nat.le_of_ble_eq_true rfl)) ?_
  exact mThen_eq fun v w9 => mX_mask rfl
theorem b_115_46 {d : Nat} {a0 : Nat} {x1 : Int32} {x2 : Int32} {x3 : Int32} {w : MW} (h0 : mTg w a0 = 9) (h1 : mR w a0 7 = some (gR w a0 7)) (h2 : mTg w (gR w a0 7) = 0) : mX (d + 1) 115 46 [.ref a0, .int x1, .int x2, .int x3, mJ] [] w = mThen (mK d 13 [.ref (gR w a0 7), .int x3] w) (fun v w9 => mX (d + 1) 115 54 [.ref a0, .int x1, .int x2, .int x3, mJ] (v.toList ++ []) w9) := by
  refine Eq.trans (X_st f_115_46 rfl rfl) ?_
  refine Eq.trans (X_getR f_115_47 h0 rfl h1) ?_
  refine Eq.trans (X_st f_115_50 rfl rfl) ?_
  refine Eq.trans (X_call f_115_51 (by decide) rfl rfl rfl rfl rfl rfl (Nat.le_of_ble_eq_true rfl) (Nat.le_of_ble_eq_true rfl) (decide_eq_true h2) (Nat.le_of_ble_eq_true rfl)) ?_
  exact mThen_eq fun v w9 => mX_mask rfl
theorem b_115_54 {d : Nat} {a0 : Nat} {x1 : Int32} {x2 : Int32} {x3 : Int32} {w : MW} (h0 : mTg w a0 = 9) (h1 : mR w a0 7 = some (gR w a0 7)) (h2 : mTg w (gR w a0 7) = 0) : mX (d + 1) 115 54 [.ref a0, .int x1, .int x2, .int x3, mJ] [] w = mThen (mK d 17 [.ref (gR w a0 7), .int (nI 10000)] w) (fun v w9 => mX (d + 1) 115 64 [.ref a0, .int x1, .int x2, .int x3, mJ] (v.toList ++ []) w9) := by
  refine Eq.trans (X_st f_115_54 rfl rfl) ?_
  refine Eq.trans (X_getR f_115_55 h0 rfl h1) ?_
  refine Eq.trans (X_sipush f_115_58 kc_s_10000) ?_
  refine Eq.trans (X_call f_115_61 (by decide) rfl rfl rfl rfl rfl rfl (Nat.le_of_ble_eq_true rfl) (Nat.le_of_ble_eq_true rfl) (decide_eq_true h2) (Nat.le_of_ble_eq_true rfl)) ?_
  exact mThen_eq fun v w9 => mX_mask rfl
theorem b_115_64 {d : Nat} {a0 : Nat} {x1 : Int32} {x2 : Int32} {x3 : Int32} {y0 : Int32} {w : MW} (h0 : mTg w a0 = 9) (h1 : mR w a0 7 = some (gR w a0 7)) (h2 : mR w a0 6 = some (gR w a0 6)) (h3 : mTg w (gR w a0 6) = 0) (h4 : mTg w (gR w a0 7) = 0) : mX (d + 1) 115 64 [.ref a0, .int x1, .int x2, .int x3, mJ] [.int y0] w = mThen (mK d 9 [.ref (gR w a0 7), .int (mI w (gR w a0 6) 11)] w) (fun v w9 => mX (d + 1) 115 79 [.ref a0, .int x1, .int x2, .int x3, mJ] (v.toList ++ []) w9) := by
  refine Eq.trans (X_pop f_115_64 rfl) ?_
  refine Eq.trans (X_st f_115_65 rfl rfl) ?_
  refine Eq.trans (X_getR f_115_66 h0 rfl h1) ?_
  refine Eq.trans (X_st f_115_69 rfl rfl) ?_
  refine Eq.trans (X_getR f_115_70 h0 rfl h2) ?_
  refine Eq.trans (X_getI f_115_73 h3 rfl) ?_
  refine Eq.trans (X_call f_115_76 (by decide) rfl rfl rfl rfl rfl rfl (Nat.le_of_ble_eq_true rfl) (Nat.le_of_ble_eq_true rfl) (decide_eq_true h4) (Nat.le_of_ble_eq_true rfl)) ?_
  exact mThen_eq fun v w9 => mX_mask rfl
theorem b_115_79 {d : Nat} {a0 : Nat} {x1 : Int32} {x2 : Int32} {x3 : Int32} {y0 : Int32} {w : MW} : mX d 115 79 [.ref a0, .int x1, .int x2, .int x3, mJ] [.int y0] w = (if x2 ≤ y0 then mX d 115 92 [.ref a0, .int x1, .int x2, .int x3, mJ] [] w else mX d 115 87 [.ref a0, mJ, mJ, .int x3, .int y0] [] w) := by
  refine Eq.trans (X_istore (L' := [.ref a0, .int x1, .int x2, .int x3, .int y0]) f_115_79 (Nat.le_of_ble_eq_true rfl) rfl) ?_
  refine Eq.trans (X_st f_115_81 rfl rfl) ?_
  refine Eq.trans (X_st f_115_83 rfl rfl) ?_
  refine Eq.trans (X_br f_115_84 rfl rfl) ?_
  exact mIte_eq (mX_mask rfl) (mX_mask rfl)
theorem b_115_87 {d : Nat} {a0 : Nat} {x3 : Int32} {x4 : Int32} {w : MW} : mX d 115 87 [.ref a0, mJ, mJ, .int x3, .int x4] [] w = mX d 115 92 [.ref a0, .int x3, .int x4, .int x3, mJ] [] w := by
  refine Eq.trans (X_st f_115_87 rfl rfl) ?_
  refine Eq.trans (X_istore_n (L' := [.ref a0, .int x3, mJ, .int x3, .int x4]) f_115_88 (Nat.le_of_ble_eq_true rfl) rfl) ?_
  refine Eq.trans (X_st f_115_89 rfl rfl) ?_
  refine Eq.trans (X_istore_n (L' := [.ref a0, .int x3, .int x4, .int x3, .int x4]) f_115_91 (Nat.le_of_ble_eq_true rfl) rfl) ?_
  exact mX_mask rfl
theorem b_115_92 {d : Nat} {a0 : Nat} {x1 : Int32} {x2 : Int32} {x3 : Int32} {w : MW} : mX d 115 92 [.ref a0, .int x1, .int x2, .int x3, mJ] [] w = mX d 115 19 [.ref a0, .int x1, .int x2, .int (x3 + (nI 1)), mJ] [] w := by
  refine Eq.trans (X_iinc f_115_92 kc_i_1 rfl rfl) ?_
  refine Eq.trans (X_st f_115_95 rfl rfl) ?_
  exact mX_mask rfl
theorem b_115_98 {d : Nat} {x1 : Int32} {w : MW} : mX d 115 98 [mJ, .int x1, mJ, mJ, mJ] [] w = some (.inl (some (.int x1)), w) := by
  refine Eq.trans (X_st f_115_98 rfl rfl) ?_
  exact X_ireturn f_115_99 rfl
/-! BeeTurnpike mean ()D -/
theorem f_116_0 : mFetch 116 0 = some (.aload_n 0, 1, []) := by decide +kernel
theorem f_116_1 : mFetch 116 1 = some (.getfield 28, 3, [9, 2, 0, 447]) := by decide +kernel
theorem f_116_4 : mFetch 116 4 = some (.iconst 3, 1, []) := by decide +kernel
theorem f_116_5 : mFetch 116 5 = some (.invokevirtual 234, 3, [85, 2, 2, 8, 561, 562, 563]) := by decide +kernel
theorem f_116_8 : mFetch 116 8 = some (.istore_n 1, 1, []) := by decide +kernel
theorem f_116_9 : mFetch 116 9 = some (.iconst 0, 1, []) := by decide +kernel
theorem f_116_10 : mFetch 116 10 = some (.istore_n 2, 1, []) := by decide +kernel
theorem f_116_11 : mFetch 116 11 = some (.iconst 0, 1, []) := by decide +kernel
theorem f_116_12 : mFetch 116 12 = some (.istore_n 3, 1, []) := by decide +kernel
theorem f_116_13 : mFetch 116 13 = some (.iload_n 3, 1, []) := by decide +kernel
theorem f_116_14 : mFetch 116 14 = some (.iload_n 1, 1, []) := by decide +kernel
theorem f_116_15 : mFetch 116 15 = some (.if_icmp .ge 23, 3, [38]) := by decide +kernel
theorem f_116_18 : mFetch 116 18 = some (.iload_n 2, 1, []) := by decide +kernel
theorem f_116_19 : mFetch 116 19 = some (.aload_n 0, 1, []) := by decide +kernel
theorem f_116_20 : mFetch 116 20 = some (.getfield 62, 3, [9, 6, 0, 451]) := by decide +kernel
theorem f_116_23 : mFetch 116 23 = some (.iload_n 3, 1, []) := by decide +kernel
theorem f_116_24 : mFetch 116 24 = some (.invokevirtual 156, 3, [1, 2, 2, 0, 614, 576, 577]) := by decide +kernel
theorem f_116_27 : mFetch 116 27 = some (.getfield 187, 3, [4, 5, 1, 103]) := by decide +kernel
theorem f_116_30 : mFetch 116 30 = some (.iadd, 1, []) := by decide +kernel
theorem f_116_31 : mFetch 116 31 = some (.istore_n 2, 1, []) := by decide +kernel
theorem f_116_32 : mFetch 116 32 = some (.iinc 3 1, 3, []) := by decide +kernel
theorem f_116_35 : mFetch 116 35 = some (.goto (-22), 3, [13]) := by decide +kernel
theorem f_116_38 : mFetch 116 38 = some (.iload_n 1, 1, []) := by decide +kernel
theorem f_116_39 : mFetch 116 39 = some (.ifCond .ne 7, 3, [46]) := by decide +kernel
theorem f_116_42 : mFetch 116 42 = some (.dconst 0, 1, []) := by decide +kernel
theorem f_116_43 : mFetch 116 43 = some (.goto 8, 3, [51]) := by decide +kernel
theorem f_116_46 : mFetch 116 46 = some (.iload_n 2, 1, []) := by decide +kernel
theorem f_116_47 : mFetch 116 47 = some (.i2d, 1, []) := by decide +kernel
theorem f_116_48 : mFetch 116 48 = some (.iload_n 1, 1, []) := by decide +kernel
theorem f_116_49 : mFetch 116 49 = some (.i2d, 1, []) := by decide +kernel
theorem f_116_50 : mFetch 116 50 = some (.ddiv, 1, []) := by decide +kernel
theorem f_116_51 : mFetch 116 51 = some (.dreturn, 1, []) := by decide +kernel
theorem b_116_0 {d : Nat} {a0 : Nat} {w : MW} (h0 : mTg w a0 = 9) (h1 : mR w a0 2 = some (gR w a0 2)) (h2 : mTg w (gR w a0 2) = 8) : mX (d + 1) 116 0 [.ref a0, mJ, mJ, mJ] [] w = mThen (mK d 85 [.ref (gR w a0 2), .int (nI 3)] w) (fun v w9 => mX (d + 1) 116 8 [.ref a0, mJ, mJ, mJ] (v.toList ++ []) w9) := by
  refine Eq.trans (X_st f_116_0 rfl rfl) ?_
  refine Eq.trans (X_getR f_116_1 h0 rfl h1) ?_
  refine Eq.trans (X_iconst f_116_4 kc_i_3) ?_
  refine Eq.trans (X_call f_116_5 (by decide) rfl rfl rfl rfl rfl rfl (Nat.le_of_ble_eq_true rfl) (Nat.le_of_ble_eq_true rfl) (decide_eq_true h2) (Nat.le_of_ble_eq_true rfl)) ?_
  exact mThen_eq fun v w9 => mX_mask rfl
theorem e_116 {d : Nat} {a0 : Nat} {w : MW} : mK d 116 [.ref a0] w = mX d 116 0 [.ref a0, mJ, mJ, mJ] [] w := rfl
theorem b_116_8 {d : Nat} {a0 : Nat} {y0 : Int32} {w : MW} : mX d 116 8 [.ref a0, mJ, mJ, mJ] [.int y0] w = mX d 116 13 [.ref a0, .int y0, .int (nI 0), .int (nI 0)] [] w := by
  refine Eq.trans (X_istore_n (L' := [.ref a0, .int y0, mJ, mJ]) f_116_8 (Nat.le_of_ble_eq_true rfl) rfl) ?_
  refine Eq.trans (X_iconst f_116_9 kc_i_0) ?_
  refine Eq.trans (X_istore_n (L' := [.ref a0, .int y0, .int (nI 0), mJ]) f_116_10 (Nat.le_of_ble_eq_true rfl) rfl) ?_
  refine Eq.trans (X_iconst f_116_11 kc_i_0) ?_
  refine Eq.trans (X_istore_n (L' := [.ref a0, .int y0, .int (nI 0), .int (nI 0)]) f_116_12 (Nat.le_of_ble_eq_true rfl) rfl) ?_
  exact mX_mask rfl
theorem b_116_13 {d : Nat} {a0 : Nat} {x1 : Int32} {x2 : Int32} {x3 : Int32} {w : MW} : mX d 116 13 [.ref a0, .int x1, .int x2, .int x3] [] w = (if x1 ≤ x3 then mX d 116 38 [mJ, .int x1, .int x2, mJ] [] w else mX d 116 18 [.ref a0, .int x1, .int x2, .int x3] [] w) := by
  refine Eq.trans (X_st f_116_13 rfl rfl) ?_
  refine Eq.trans (X_st f_116_14 rfl rfl) ?_
  refine Eq.trans (X_br f_116_15 rfl rfl) ?_
  exact mIte_eq (mX_mask rfl) (mX_mask rfl)
theorem b_116_18 {d : Nat} {a0 : Nat} {x1 : Int32} {x2 : Int32} {x3 : Int32} {w : MW} (h0 : mTg w a0 = 9) (h1 : mR w a0 6 = some (gR w a0 6)) (h2 : mTg w (gR w a0 6) = 0) : mX (d + 1) 116 18 [.ref a0, .int x1, .int x2, .int x3] [] w = mThen (mK d 1 [.ref (gR w a0 6), .int x3] w) (fun v w9 => mX (d + 1) 116 27 [.ref a0, .int x1, mJ, .int x3] (v.toList ++ [.int x2]) w9) := by
  refine Eq.trans (X_st f_116_18 rfl rfl) ?_
  refine Eq.trans (X_st f_116_19 rfl rfl) ?_
  refine Eq.trans (X_getR f_116_20 h0 rfl h1) ?_
  refine Eq.trans (X_st f_116_23 rfl rfl) ?_
  refine Eq.trans (X_call f_116_24 (by decide) rfl rfl rfl rfl rfl rfl (Nat.le_of_ble_eq_true rfl) (Nat.le_of_ble_eq_true rfl) (decide_eq_true h2) (Nat.le_of_ble_eq_true rfl)) ?_
  exact mThen_eq fun v w9 => mX_mask rfl
theorem b_116_27 {d : Nat} {a0 : Nat} {x1 : Int32} {x3 : Int32} {b0 : Nat} {y1 : Int32} {w : MW} (h0 : mTg w b0 = 4) : mX d 116 27 [.ref a0, .int x1, mJ, .int x3] [.ref b0, .int y1] w = mX d 116 13 [.ref a0, .int x1, .int (y1 + (mI w b0 5)), .int (x3 + (nI 1))] [] w := by
  refine Eq.trans (X_getI f_116_27 h0 rfl) ?_
  refine Eq.trans (X_st f_116_30 rfl rfl) ?_
  refine Eq.trans (X_istore_n (L' := [.ref a0, .int x1, .int (y1 + (mI w b0 5)), .int x3]) f_116_31 (Nat.le_of_ble_eq_true rfl) rfl) ?_
  refine Eq.trans (X_iinc f_116_32 kc_i_1 rfl rfl) ?_
  refine Eq.trans (X_st f_116_35 rfl rfl) ?_
  exact mX_mask rfl
theorem b_116_38 {d : Nat} {x1 : Int32} {x2 : Int32} {w : MW} : mX d 116 38 [mJ, .int x1, .int x2, mJ] [] w = (if ¬ x1 = nI 0 then mX d 116 46 [mJ, .int x1, .int x2, mJ] [] w else mX d 116 42 [mJ, mJ, mJ, mJ] [] w) := by
  refine Eq.trans (X_st f_116_38 rfl rfl) ?_
  refine Eq.trans (X_br f_116_39 rfl rfl) ?_
  exact mIte_eq (mX_mask rfl) (mX_mask rfl)
theorem b_116_42 {d : Nat} {w : MW} : mX d 116 42 [mJ, mJ, mJ, mJ] [] w = mX d 116 51 [mJ, mJ, mJ, mJ] [.double FP.dconst0] w := by
  refine Eq.trans (X_dconst f_116_42) ?_
  refine Eq.trans (X_st f_116_43 rfl rfl) ?_
  exact mX_mask rfl
theorem b_116_46 {d : Nat} {x1 : Int32} {x2 : Int32} {w : MW} (h0 : (FP.ddiv (FP.i2d x2) (FP.i2d x1)) &&& 0x7fffffffffffffff ≤ 0x7ff0000000000000) : mX d 116 46 [mJ, .int x1, .int x2, mJ] [] w = mX d 116 51 [mJ, mJ, mJ, mJ] [.double (FP.ddiv (FP.i2d x2) (FP.i2d x1))] w := by
  refine Eq.trans (X_st f_116_46 rfl rfl) ?_
  refine Eq.trans (X_st f_116_47 rfl rfl) ?_
  refine Eq.trans (X_st f_116_48 rfl rfl) ?_
  refine Eq.trans (X_st f_116_49 rfl rfl) ?_
  refine Eq.trans (X_st f_116_50 rfl (if_pos h0)) ?_
  exact mX_mask rfl
theorem b_116_51 {d : Nat} {e0 : UInt64} {w : MW} : mX d 116 51 [mJ, mJ, mJ, mJ] [.double e0] w = some (.inl (some (.double e0)), w) := by
  exact X_ret f_116_51 rfl rfl
/-! BeeTurnpike digest ()J -/
theorem f_117_0 : mFetch 117 0 = some (.ldc2_w 241, 3, [919, 804]) := by decide +kernel
theorem f_117_3 : mFetch 117 3 = some (.lstore_n 1, 1, []) := by decide +kernel
theorem f_117_4 : mFetch 117 4 = some (.iconst 0, 1, []) := by decide +kernel
theorem f_117_5 : mFetch 117 5 = some (.istore_n 3, 1, []) := by decide +kernel
theorem f_117_6 : mFetch 117 6 = some (.iload_n 3, 1, []) := by decide +kernel
theorem f_117_7 : mFetch 117 7 = some (.bipush 17, 2, []) := by decide +kernel
theorem f_117_9 : mFetch 117 9 = some (.if_icmp .gt 22, 3, [31]) := by decide +kernel
theorem f_117_12 : mFetch 117 12 = some (.lload_n 1, 1, []) := by decide +kernel
theorem f_117_13 : mFetch 117 13 = some (.ldc2_w 243, 3, [31, 805]) := by decide +kernel
theorem f_117_16 : mFetch 117 16 = some (.lmul, 1, []) := by decide +kernel
theorem f_117_17 : mFetch 117 17 = some (.aload_n 0, 1, []) := by decide +kernel
theorem f_117_18 : mFetch 117 18 = some (.iload_n 3, 1, []) := by decide +kernel
theorem f_117_19 : mFetch 117 19 = some (.invokevirtual 122, 3, [119, 2, 2, 9, 545, 547, 5]) := by decide +kernel
theorem f_117_22 : mFetch 117 22 = some (.i2l, 1, []) := by decide +kernel
theorem f_117_23 : mFetch 117 23 = some (.ladd, 1, []) := by decide +kernel
theorem f_117_24 : mFetch 117 24 = some (.lstore_n 1, 1, []) := by decide +kernel
theorem f_117_25 : mFetch 117 25 = some (.iinc 3 1, 3, []) := by decide +kernel
theorem f_117_28 : mFetch 117 28 = some (.goto (-22), 3, [6]) := by decide +kernel
theorem f_117_31 : mFetch 117 31 = some (.iconst 0, 1, []) := by decide +kernel
theorem f_117_32 : mFetch 117 32 = some (.istore_n 3, 1, []) := by decide +kernel
theorem f_117_33 : mFetch 117 33 = some (.iload_n 3, 1, []) := by decide +kernel
theorem f_117_34 : mFetch 117 34 = some (.aload_n 0, 1, []) := by decide +kernel
theorem f_117_35 : mFetch 117 35 = some (.getfield 28, 3, [9, 2, 0, 447]) := by decide +kernel
theorem f_117_38 : mFetch 117 38 = some (.iconst 1, 1, []) := by decide +kernel
theorem f_117_39 : mFetch 117 39 = some (.invokevirtual 234, 3, [85, 2, 2, 8, 561, 562, 563]) := by decide +kernel
theorem f_117_42 : mFetch 117 42 = some (.if_icmp .ge 39, 3, [81]) := by decide +kernel
theorem f_117_45 : mFetch 117 45 = some (.iconst 0, 1, []) := by decide +kernel
theorem f_117_46 : mFetch 117 46 = some (.istore 4, 2, []) := by decide +kernel
theorem f_117_48 : mFetch 117 48 = some (.iload 4, 2, []) := by decide +kernel
theorem f_117_50 : mFetch 117 50 = some (.iconst 4, 1, []) := by decide +kernel
theorem f_117_51 : mFetch 117 51 = some (.if_icmp .gt 24, 3, [75]) := by decide +kernel
theorem f_117_54 : mFetch 117 54 = some (.lload_n 1, 1, []) := by decide +kernel
theorem f_117_55 : mFetch 117 55 = some (.ldc2_w 243, 3, [31, 805]) := by decide +kernel
theorem f_117_58 : mFetch 117 58 = some (.lmul, 1, []) := by decide +kernel
theorem f_117_59 : mFetch 117 59 = some (.aload_n 0, 1, []) := by decide +kernel
theorem f_117_60 : mFetch 117 60 = some (.iload_n 3, 1, []) := by decide +kernel
theorem f_117_61 : mFetch 117 61 = some (.iload 4, 2, []) := by decide +kernel
theorem f_117_63 : mFetch 117 63 = some (.invokevirtual 132, 3, [120, 3, 2, 9, 806, 808, 23]) := by decide +kernel
theorem f_117_66 : mFetch 117 66 = some (.i2l, 1, []) := by decide +kernel
theorem f_117_67 : mFetch 117 67 = some (.ladd, 1, []) := by decide +kernel
theorem f_117_68 : mFetch 117 68 = some (.lstore_n 1, 1, []) := by decide +kernel
theorem f_117_69 : mFetch 117 69 = some (.iinc 4 1, 3, []) := by decide +kernel
theorem f_117_72 : mFetch 117 72 = some (.goto (-24), 3, [48]) := by decide +kernel
theorem f_117_75 : mFetch 117 75 = some (.iinc 3 1, 3, []) := by decide +kernel
theorem f_117_78 : mFetch 117 78 = some (.goto (-45), 3, [33]) := by decide +kernel
theorem f_117_81 : mFetch 117 81 = some (.iconst 0, 1, []) := by decide +kernel
theorem f_117_82 : mFetch 117 82 = some (.istore_n 3, 1, []) := by decide +kernel
theorem f_117_83 : mFetch 117 83 = some (.iload_n 3, 1, []) := by decide +kernel
theorem f_117_84 : mFetch 117 84 = some (.aload_n 0, 1, []) := by decide +kernel
theorem f_117_85 : mFetch 117 85 = some (.getfield 28, 3, [9, 2, 0, 447]) := by decide +kernel
theorem f_117_88 : mFetch 117 88 = some (.iconst 2, 1, []) := by decide +kernel
theorem f_117_89 : mFetch 117 89 = some (.invokevirtual 234, 3, [85, 2, 2, 8, 561, 562, 563]) := by decide +kernel
theorem f_117_92 : mFetch 117 92 = some (.if_icmp .ge 39, 3, [131]) := by decide +kernel
theorem f_117_95 : mFetch 117 95 = some (.iconst 0, 1, []) := by decide +kernel
theorem f_117_96 : mFetch 117 96 = some (.istore 4, 2, []) := by decide +kernel
theorem f_117_98 : mFetch 117 98 = some (.iload 4, 2, []) := by decide +kernel
theorem f_117_100 : mFetch 117 100 = some (.iconst 4, 1, []) := by decide +kernel
theorem f_117_101 : mFetch 117 101 = some (.if_icmp .gt 24, 3, [125]) := by decide +kernel
theorem f_117_104 : mFetch 117 104 = some (.lload_n 1, 1, []) := by decide +kernel
theorem f_117_105 : mFetch 117 105 = some (.ldc2_w 243, 3, [31, 805]) := by decide +kernel
theorem f_117_108 : mFetch 117 108 = some (.lmul, 1, []) := by decide +kernel
theorem f_117_109 : mFetch 117 109 = some (.aload_n 0, 1, []) := by decide +kernel
theorem f_117_110 : mFetch 117 110 = some (.iload_n 3, 1, []) := by decide +kernel
theorem f_117_111 : mFetch 117 111 = some (.iload 4, 2, []) := by decide +kernel
theorem f_117_113 : mFetch 117 113 = some (.invokevirtual 138, 3, [121, 3, 2, 9, 588, 590, 6]) := by decide +kernel
theorem f_117_116 : mFetch 117 116 = some (.i2l, 1, []) := by decide +kernel
theorem f_117_117 : mFetch 117 117 = some (.ladd, 1, []) := by decide +kernel
theorem f_117_118 : mFetch 117 118 = some (.lstore_n 1, 1, []) := by decide +kernel
theorem f_117_119 : mFetch 117 119 = some (.iinc 4 1, 3, []) := by decide +kernel
theorem f_117_122 : mFetch 117 122 = some (.goto (-24), 3, [98]) := by decide +kernel
theorem f_117_125 : mFetch 117 125 = some (.iinc 3 1, 3, []) := by decide +kernel
theorem f_117_128 : mFetch 117 128 = some (.goto (-45), 3, [83]) := by decide +kernel
theorem f_117_131 : mFetch 117 131 = some (.iconst 0, 1, []) := by decide +kernel
theorem f_117_132 : mFetch 117 132 = some (.istore_n 3, 1, []) := by decide +kernel
theorem f_117_133 : mFetch 117 133 = some (.iload_n 3, 1, []) := by decide +kernel
theorem f_117_134 : mFetch 117 134 = some (.aload_n 0, 1, []) := by decide +kernel
theorem f_117_135 : mFetch 117 135 = some (.getfield 28, 3, [9, 2, 0, 447]) := by decide +kernel
theorem f_117_138 : mFetch 117 138 = some (.iconst 3, 1, []) := by decide +kernel
theorem f_117_139 : mFetch 117 139 = some (.invokevirtual 234, 3, [85, 2, 2, 8, 561, 562, 563]) := by decide +kernel
theorem f_117_142 : mFetch 117 142 = some (.if_icmp .ge 16, 3, [158]) := by decide +kernel
theorem f_117_145 : mFetch 117 145 = some (.aload_n 0, 1, []) := by decide +kernel
theorem f_117_146 : mFetch 117 146 = some (.lload_n 1, 1, []) := by decide +kernel
theorem f_117_147 : mFetch 117 147 = some (.iload_n 3, 1, []) := by decide +kernel
theorem f_117_148 : mFetch 117 148 = some (.invokevirtual 245, 3, [118, 3, 2, 9, 818, 820, 25]) := by decide +kernel
theorem f_117_151 : mFetch 117 151 = some (.lstore_n 1, 1, []) := by decide +kernel
theorem f_117_152 : mFetch 117 152 = some (.iinc 3 1, 3, []) := by decide +kernel
theorem f_117_155 : mFetch 117 155 = some (.goto (-22), 3, [133]) := by decide +kernel
theorem f_117_158 : mFetch 117 158 = some (.lload_n 1, 1, []) := by decide +kernel
theorem f_117_159 : mFetch 117 159 = some (.lreturn, 1, []) := by decide +kernel
theorem b_117_0 {d : Nat} {a0 : Nat} {w : MW} : mX d 117 0 [.ref a0, mJ, mJ, mJ, mJ] [] w = mX d 117 6 [.ref a0, .long (919 : Int64), mJ, .int (nI 0), mJ] [] w := by
  refine Eq.trans (X_st f_117_0 rfl rfl) ?_
  refine Eq.trans (X_lstore_n (L' := [.ref a0, .long (919 : Int64), mJ, mJ, mJ]) f_117_3 (Nat.le_of_ble_eq_true rfl) rfl) ?_
  refine Eq.trans (X_iconst f_117_4 kc_i_0) ?_
  refine Eq.trans (X_istore_n (L' := [.ref a0, .long (919 : Int64), mJ, .int (nI 0), mJ]) f_117_5 (Nat.le_of_ble_eq_true rfl) rfl) ?_
  exact mX_mask rfl
theorem e_117 {d : Nat} {a0 : Nat} {w : MW} : mK d 117 [.ref a0] w = mX d 117 0 [.ref a0, mJ, mJ, mJ, mJ] [] w := rfl
theorem b_117_6 {d : Nat} {a0 : Nat} {l1 : Int64} {x3 : Int32} {w : MW} : mX d 117 6 [.ref a0, .long l1, mJ, .int x3, mJ] [] w = (if (nI 17) < x3 then mX d 117 31 [.ref a0, .long l1, mJ, mJ, mJ] [] w else mX d 117 12 [.ref a0, .long l1, mJ, .int x3, mJ] [] w) := by
  refine Eq.trans (X_st f_117_6 rfl rfl) ?_
  refine Eq.trans (X_bipush f_117_7 kc_b_17) ?_
  refine Eq.trans (X_br f_117_9 rfl rfl) ?_
  exact mIte_eq (mX_mask rfl) (mX_mask rfl)
theorem b_117_12 {d : Nat} {a0 : Nat} {l1 : Int64} {x3 : Int32} {w : MW} (h0 : mTg w a0 = 9) : mX (d + 1) 117 12 [.ref a0, .long l1, mJ, .int x3, mJ] [] w = mThen (mK d 119 [.ref a0, .int x3] w) (fun v w9 => mX (d + 1) 117 22 [.ref a0, mJ, mJ, .int x3, mJ] (v.toList ++ [.long (l1 * (31 : Int64))]) w9) := by
  refine Eq.trans (X_st f_117_12 rfl rfl) ?_
  refine Eq.trans (X_st f_117_13 rfl rfl) ?_
  refine Eq.trans (X_st f_117_16 rfl rfl) ?_
  refine Eq.trans (X_st f_117_17 rfl rfl) ?_
  refine Eq.trans (X_st f_117_18 rfl rfl) ?_
  refine Eq.trans (X_call f_117_19 (by decide) rfl rfl rfl rfl rfl rfl (Nat.le_of_ble_eq_true rfl) (Nat.le_of_ble_eq_true rfl) (decide_eq_true h0) (Nat.le_of_ble_eq_true rfl)) ?_
  exact mThen_eq fun v w9 => mX_mask rfl
theorem b_117_22 {d : Nat} {a0 : Nat} {x3 : Int32} {y0 : Int32} {m1 : Int64} {w : MW} : mX d 117 22 [.ref a0, mJ, mJ, .int x3, mJ] [.int y0, .long m1] w = mX d 117 6 [.ref a0, .long (m1 + y0.toInt64), mJ, .int (x3 + (nI 1)), mJ] [] w := by
  refine Eq.trans (X_st f_117_22 rfl rfl) ?_
  refine Eq.trans (X_st f_117_23 rfl rfl) ?_
  refine Eq.trans (X_lstore_n (L' := [.ref a0, .long (m1 + y0.toInt64), mJ, .int x3, mJ]) f_117_24 (Nat.le_of_ble_eq_true rfl) rfl) ?_
  refine Eq.trans (X_iinc f_117_25 kc_i_1 rfl rfl) ?_
  refine Eq.trans (X_st f_117_28 rfl rfl) ?_
  exact mX_mask rfl
theorem b_117_31 {d : Nat} {a0 : Nat} {l1 : Int64} {w : MW} : mX d 117 31 [.ref a0, .long l1, mJ, mJ, mJ] [] w = mX d 117 33 [.ref a0, .long l1, mJ, .int (nI 0), mJ] [] w := by
  refine Eq.trans (X_iconst f_117_31 kc_i_0) ?_
  refine Eq.trans (X_istore_n (L' := [.ref a0, .long l1, mJ, .int (nI 0), mJ]) f_117_32 (Nat.le_of_ble_eq_true rfl) rfl) ?_
  exact mX_mask rfl
theorem b_117_33 {d : Nat} {a0 : Nat} {l1 : Int64} {x3 : Int32} {w : MW} (h0 : mTg w a0 = 9) (h1 : mR w a0 2 = some (gR w a0 2)) (h2 : mTg w (gR w a0 2) = 8) : mX (d + 1) 117 33 [.ref a0, .long l1, mJ, .int x3, mJ] [] w = mThen (mK d 85 [.ref (gR w a0 2), .int (nI 1)] w) (fun v w9 => mX (d + 1) 117 42 [.ref a0, .long l1, mJ, .int x3, mJ] (v.toList ++ [.int x3]) w9) := by
  refine Eq.trans (X_st f_117_33 rfl rfl) ?_
  refine Eq.trans (X_st f_117_34 rfl rfl) ?_
  refine Eq.trans (X_getR f_117_35 h0 rfl h1) ?_
  refine Eq.trans (X_iconst f_117_38 kc_i_1) ?_
  refine Eq.trans (X_call f_117_39 (by decide) rfl rfl rfl rfl rfl rfl (Nat.le_of_ble_eq_true rfl) (Nat.le_of_ble_eq_true rfl) (decide_eq_true h2) (Nat.le_of_ble_eq_true rfl)) ?_
  exact mThen_eq fun v w9 => mX_mask rfl
theorem b_117_42 {d : Nat} {a0 : Nat} {l1 : Int64} {x3 : Int32} {y0 : Int32} {y1 : Int32} {w : MW} : mX d 117 42 [.ref a0, .long l1, mJ, .int x3, mJ] [.int y0, .int y1] w = (if y0 ≤ y1 then mX d 117 81 [.ref a0, .long l1, mJ, mJ, mJ] [] w else mX d 117 45 [.ref a0, .long l1, mJ, .int x3, mJ] [] w) := by
  refine Eq.trans (X_br f_117_42 rfl rfl) ?_
  exact mIte_eq (mX_mask rfl) (mX_mask rfl)
theorem b_117_45 {d : Nat} {a0 : Nat} {l1 : Int64} {x3 : Int32} {w : MW} : mX d 117 45 [.ref a0, .long l1, mJ, .int x3, mJ] [] w = mX d 117 48 [.ref a0, .long l1, mJ, .int x3, .int (nI 0)] [] w := by
  refine Eq.trans (X_iconst f_117_45 kc_i_0) ?_
  refine Eq.trans (X_istore (L' := [.ref a0, .long l1, mJ, .int x3, .int (nI 0)]) f_117_46 (Nat.le_of_ble_eq_true rfl) rfl) ?_
  exact mX_mask rfl
theorem b_117_48 {d : Nat} {a0 : Nat} {l1 : Int64} {x3 : Int32} {x4 : Int32} {w : MW} : mX d 117 48 [.ref a0, .long l1, mJ, .int x3, .int x4] [] w = (if (nI 4) < x4 then mX d 117 75 [.ref a0, .long l1, mJ, .int x3, mJ] [] w else mX d 117 54 [.ref a0, .long l1, mJ, .int x3, .int x4] [] w) := by
  refine Eq.trans (X_st f_117_48 rfl rfl) ?_
  refine Eq.trans (X_iconst f_117_50 kc_i_4) ?_
  refine Eq.trans (X_br f_117_51 rfl rfl) ?_
  exact mIte_eq (mX_mask rfl) (mX_mask rfl)
theorem b_117_54 {d : Nat} {a0 : Nat} {l1 : Int64} {x3 : Int32} {x4 : Int32} {w : MW} (h0 : mTg w a0 = 9) : mX (d + 1) 117 54 [.ref a0, .long l1, mJ, .int x3, .int x4] [] w = mThen (mK d 120 [.ref a0, .int x3, .int x4] w) (fun v w9 => mX (d + 1) 117 66 [.ref a0, mJ, mJ, .int x3, .int x4] (v.toList ++ [.long (l1 * (31 : Int64))]) w9) := by
  refine Eq.trans (X_st f_117_54 rfl rfl) ?_
  refine Eq.trans (X_st f_117_55 rfl rfl) ?_
  refine Eq.trans (X_st f_117_58 rfl rfl) ?_
  refine Eq.trans (X_st f_117_59 rfl rfl) ?_
  refine Eq.trans (X_st f_117_60 rfl rfl) ?_
  refine Eq.trans (X_st f_117_61 rfl rfl) ?_
  refine Eq.trans (X_call f_117_63 (by decide) rfl rfl rfl rfl rfl rfl (Nat.le_of_ble_eq_true rfl) (Nat.le_of_ble_eq_true rfl) (decide_eq_true h0) (Nat.le_of_ble_eq_true rfl)) ?_
  exact mThen_eq fun v w9 => mX_mask rfl
theorem b_117_66 {d : Nat} {a0 : Nat} {x3 : Int32} {x4 : Int32} {y0 : Int32} {m1 : Int64} {w : MW} : mX d 117 66 [.ref a0, mJ, mJ, .int x3, .int x4] [.int y0, .long m1] w = mX d 117 48 [.ref a0, .long (m1 + y0.toInt64), mJ, .int x3, .int (x4 + (nI 1))] [] w := by
  refine Eq.trans (X_st f_117_66 rfl rfl) ?_
  refine Eq.trans (X_st f_117_67 rfl rfl) ?_
  refine Eq.trans (X_lstore_n (L' := [.ref a0, .long (m1 + y0.toInt64), mJ, .int x3, .int x4]) f_117_68 (Nat.le_of_ble_eq_true rfl) rfl) ?_
  refine Eq.trans (X_iinc f_117_69 kc_i_1 rfl rfl) ?_
  refine Eq.trans (X_st f_117_72 rfl rfl) ?_
  exact mX_mask rfl
theorem b_117_75 {d : Nat} {a0 : Nat} {l1 : Int64} {x3 : Int32} {w : MW} : mX d 117 75 [.ref a0, .long l1, mJ, .int x3, mJ] [] w = mX d 117 33 [.ref a0, .long l1, mJ, .int (x3 + (nI 1)), mJ] [] w := by
  refine Eq.trans (X_iinc f_117_75 kc_i_1 rfl rfl) ?_
  refine Eq.trans (X_st f_117_78 rfl rfl) ?_
  exact mX_mask rfl
theorem b_117_81 {d : Nat} {a0 : Nat} {l1 : Int64} {w : MW} : mX d 117 81 [.ref a0, .long l1, mJ, mJ, mJ] [] w = mX d 117 83 [.ref a0, .long l1, mJ, .int (nI 0), mJ] [] w := by
  refine Eq.trans (X_iconst f_117_81 kc_i_0) ?_
  refine Eq.trans (X_istore_n (L' := [.ref a0, .long l1, mJ, .int (nI 0), mJ]) f_117_82 (Nat.le_of_ble_eq_true rfl) rfl) ?_
  exact mX_mask rfl
theorem b_117_83 {d : Nat} {a0 : Nat} {l1 : Int64} {x3 : Int32} {w : MW} (h0 : mTg w a0 = 9) (h1 : mR w a0 2 = some (gR w a0 2)) (h2 : mTg w (gR w a0 2) = 8) : mX (d + 1) 117 83 [.ref a0, .long l1, mJ, .int x3, mJ] [] w = mThen (mK d 85 [.ref (gR w a0 2), .int (nI 2)] w) (fun v w9 => mX (d + 1) 117 92 [.ref a0, .long l1, mJ, .int x3, mJ] (v.toList ++ [.int x3]) w9) := by
  refine Eq.trans (X_st f_117_83 rfl rfl) ?_
  refine Eq.trans (X_st f_117_84 rfl rfl) ?_
  refine Eq.trans (X_getR f_117_85 h0 rfl h1) ?_
  refine Eq.trans (X_iconst f_117_88 kc_i_2) ?_
  refine Eq.trans (X_call f_117_89 (by decide) rfl rfl rfl rfl rfl rfl (Nat.le_of_ble_eq_true rfl) (Nat.le_of_ble_eq_true rfl) (decide_eq_true h2) (Nat.le_of_ble_eq_true rfl)) ?_
  exact mThen_eq fun v w9 => mX_mask rfl
theorem b_117_92 {d : Nat} {a0 : Nat} {l1 : Int64} {x3 : Int32} {y0 : Int32} {y1 : Int32} {w : MW} : mX d 117 92 [.ref a0, .long l1, mJ, .int x3, mJ] [.int y0, .int y1] w = (if y0 ≤ y1 then mX d 117 131 [.ref a0, .long l1, mJ, mJ, mJ] [] w else mX d 117 95 [.ref a0, .long l1, mJ, .int x3, mJ] [] w) := by
  refine Eq.trans (X_br f_117_92 rfl rfl) ?_
  exact mIte_eq (mX_mask rfl) (mX_mask rfl)
theorem b_117_95 {d : Nat} {a0 : Nat} {l1 : Int64} {x3 : Int32} {w : MW} : mX d 117 95 [.ref a0, .long l1, mJ, .int x3, mJ] [] w = mX d 117 98 [.ref a0, .long l1, mJ, .int x3, .int (nI 0)] [] w := by
  refine Eq.trans (X_iconst f_117_95 kc_i_0) ?_
  refine Eq.trans (X_istore (L' := [.ref a0, .long l1, mJ, .int x3, .int (nI 0)]) f_117_96 (Nat.le_of_ble_eq_true rfl) rfl) ?_
  exact mX_mask rfl
theorem b_117_98 {d : Nat} {a0 : Nat} {l1 : Int64} {x3 : Int32} {x4 : Int32} {w : MW} : mX d 117 98 [.ref a0, .long l1, mJ, .int x3, .int x4] [] w = (if (nI 4) < x4 then mX d 117 125 [.ref a0, .long l1, mJ, .int x3, mJ] [] w else mX d 117 104 [.ref a0, .long l1, mJ, .int x3, .int x4] [] w) := by
  refine Eq.trans (X_st f_117_98 rfl rfl) ?_
  refine Eq.trans (X_iconst f_117_100 kc_i_4) ?_
  refine Eq.trans (X_br f_117_101 rfl rfl) ?_
  exact mIte_eq (mX_mask rfl) (mX_mask rfl)
theorem b_117_104 {d : Nat} {a0 : Nat} {l1 : Int64} {x3 : Int32} {x4 : Int32} {w : MW} (h0 : mTg w a0 = 9) : mX (d + 1) 117 104 [.ref a0, .long l1, mJ, .int x3, .int x4] [] w = mThen (mK d 121 [.ref a0, .int x3, .int x4] w) (fun v w9 => mX (d + 1) 117 116 [.ref a0, mJ, mJ, .int x3, .int x4] (v.toList ++ [.long (l1 * (31 : Int64))]) w9) := by
  refine Eq.trans (X_st f_117_104 rfl rfl) ?_
  refine Eq.trans (X_st f_117_105 rfl rfl) ?_
  refine Eq.trans (X_st f_117_108 rfl rfl) ?_
  refine Eq.trans (X_st f_117_109 rfl rfl) ?_
  refine Eq.trans (X_st f_117_110 rfl rfl) ?_
  refine Eq.trans (X_st f_117_111 rfl rfl) ?_
  refine Eq.trans (X_call f_117_113 (by decide) rfl rfl rfl rfl rfl rfl (Nat.le_of_ble_eq_true rfl) (Nat.le_of_ble_eq_true rfl) (decide_eq_true h0) (Nat.le_of_ble_eq_true rfl)) ?_
  exact mThen_eq fun v w9 => mX_mask rfl
theorem b_117_116 {d : Nat} {a0 : Nat} {x3 : Int32} {x4 : Int32} {y0 : Int32} {m1 : Int64} {w : MW} : mX d 117 116 [.ref a0, mJ, mJ, .int x3, .int x4] [.int y0, .long m1] w = mX d 117 98 [.ref a0, .long (m1 + y0.toInt64), mJ, .int x3, .int (x4 + (nI 1))] [] w := by
  refine Eq.trans (X_st f_117_116 rfl rfl) ?_
  refine Eq.trans (X_st f_117_117 rfl rfl) ?_
  refine Eq.trans (X_lstore_n (L' := [.ref a0, .long (m1 + y0.toInt64), mJ, .int x3, .int x4]) f_117_118 (Nat.le_of_ble_eq_true rfl) rfl) ?_
  refine Eq.trans (X_iinc f_117_119 kc_i_1 rfl rfl) ?_
  refine Eq.trans (X_st f_117_122 rfl rfl) ?_
  exact mX_mask rfl
theorem b_117_125 {d : Nat} {a0 : Nat} {l1 : Int64} {x3 : Int32} {w : MW} : mX d 117 125 [.ref a0, .long l1, mJ, .int x3, mJ] [] w = mX d 117 83 [.ref a0, .long l1, mJ, .int (x3 + (nI 1)), mJ] [] w := by
  refine Eq.trans (X_iinc f_117_125 kc_i_1 rfl rfl) ?_
  refine Eq.trans (X_st f_117_128 rfl rfl) ?_
  exact mX_mask rfl
theorem b_117_131 {d : Nat} {a0 : Nat} {l1 : Int64} {w : MW} : mX d 117 131 [.ref a0, .long l1, mJ, mJ, mJ] [] w = mX d 117 133 [.ref a0, .long l1, mJ, .int (nI 0), mJ] [] w := by
  refine Eq.trans (X_iconst f_117_131 kc_i_0) ?_
  refine Eq.trans (X_istore_n (L' := [.ref a0, .long l1, mJ, .int (nI 0), mJ]) f_117_132 (Nat.le_of_ble_eq_true rfl) rfl) ?_
  exact mX_mask rfl
theorem b_117_133 {d : Nat} {a0 : Nat} {l1 : Int64} {x3 : Int32} {w : MW} (h0 : mTg w a0 = 9) (h1 : mR w a0 2 = some (gR w a0 2)) (h2 : mTg w (gR w a0 2) = 8) : mX (d + 1) 117 133 [.ref a0, .long l1, mJ, .int x3, mJ] [] w = mThen (mK d 85 [.ref (gR w a0 2), .int (nI 3)] w) (fun v w9 => mX (d + 1) 117 142 [.ref a0, .long l1, mJ, .int x3, mJ] (v.toList ++ [.int x3]) w9) := by
  refine Eq.trans (X_st f_117_133 rfl rfl) ?_
  refine Eq.trans (X_st f_117_134 rfl rfl) ?_
  refine Eq.trans (X_getR f_117_135 h0 rfl h1) ?_
  refine Eq.trans (X_iconst f_117_138 kc_i_3) ?_
  refine Eq.trans (X_call f_117_139 (by decide) rfl rfl rfl rfl rfl rfl (Nat.le_of_ble_eq_true rfl) (Nat.le_of_ble_eq_true rfl) (decide_eq_true h2) (Nat.le_of_ble_eq_true rfl)) ?_
  exact mThen_eq fun v w9 => mX_mask rfl
theorem b_117_142 {d : Nat} {a0 : Nat} {l1 : Int64} {x3 : Int32} {y0 : Int32} {y1 : Int32} {w : MW} : mX d 117 142 [.ref a0, .long l1, mJ, .int x3, mJ] [.int y0, .int y1] w = (if y0 ≤ y1 then mX d 117 158 [mJ, .long l1, mJ, mJ, mJ] [] w else mX d 117 145 [.ref a0, .long l1, mJ, .int x3, mJ] [] w) := by
  refine Eq.trans (X_br f_117_142 rfl rfl) ?_
  exact mIte_eq (mX_mask rfl) (mX_mask rfl)
theorem b_117_145 {d : Nat} {a0 : Nat} {l1 : Int64} {x3 : Int32} {w : MW} (h0 : mTg w a0 = 9) : mX (d + 1) 117 145 [.ref a0, .long l1, mJ, .int x3, mJ] [] w = mThen (mK d 118 [.ref a0, .long l1, .int x3] w) (fun v w9 => mX (d + 1) 117 151 [.ref a0, mJ, mJ, .int x3, mJ] (v.toList ++ []) w9) := by
  refine Eq.trans (X_st f_117_145 rfl rfl) ?_
  refine Eq.trans (X_st f_117_146 rfl rfl) ?_
  refine Eq.trans (X_st f_117_147 rfl rfl) ?_
  refine Eq.trans (X_call f_117_148 (by decide) rfl rfl rfl rfl rfl rfl (Nat.le_of_ble_eq_true rfl) (Nat.le_of_ble_eq_true rfl) (decide_eq_true h0) (Nat.le_of_ble_eq_true rfl)) ?_
  exact mThen_eq fun v w9 => mX_mask rfl
theorem b_117_151 {d : Nat} {a0 : Nat} {x3 : Int32} {m0 : Int64} {w : MW} : mX d 117 151 [.ref a0, mJ, mJ, .int x3, mJ] [.long m0] w = mX d 117 133 [.ref a0, .long m0, mJ, .int (x3 + (nI 1)), mJ] [] w := by
  refine Eq.trans (X_lstore_n (L' := [.ref a0, .long m0, mJ, .int x3, mJ]) f_117_151 (Nat.le_of_ble_eq_true rfl) rfl) ?_
  refine Eq.trans (X_iinc f_117_152 kc_i_1 rfl rfl) ?_
  refine Eq.trans (X_st f_117_155 rfl rfl) ?_
  exact mX_mask rfl
theorem b_117_158 {d : Nat} {l1 : Int64} {w : MW} : mX d 117 158 [mJ, .long l1, mJ, mJ, mJ] [] w = some (.inl (some (.long l1)), w) := by
  refine Eq.trans (X_st f_117_158 rfl rfl) ?_
  exact X_ret f_117_159 rfl rfl
/-! BeeTurnpike digestOfSpeller (JI)J -/
theorem f_118_0 : mFetch 118 0 = some (.lload_n 1, 1, []) := by decide +kernel
theorem f_118_1 : mFetch 118 1 = some (.lstore 4, 2, []) := by decide +kernel
theorem f_118_3 : mFetch 118 3 = some (.iconst 0, 1, []) := by decide +kernel
theorem f_118_4 : mFetch 118 4 = some (.istore 6, 2, []) := by decide +kernel
theorem f_118_6 : mFetch 118 6 = some (.iload 6, 2, []) := by decide +kernel
theorem f_118_8 : mFetch 118 8 = some (.bipush 8, 2, []) := by decide +kernel
theorem f_118_10 : mFetch 118 10 = some (.if_icmp .gt 26, 3, [36]) := by decide +kernel
theorem f_118_13 : mFetch 118 13 = some (.lload 4, 2, []) := by decide +kernel
theorem f_118_15 : mFetch 118 15 = some (.ldc2_w 243, 3, [31, 805]) := by decide +kernel
theorem f_118_18 : mFetch 118 18 = some (.lmul, 1, []) := by decide +kernel
theorem f_118_19 : mFetch 118 19 = some (.aload_n 0, 1, []) := by decide +kernel
theorem f_118_20 : mFetch 118 20 = some (.iload_n 3, 1, []) := by decide +kernel
theorem f_118_21 : mFetch 118 21 = some (.iload 6, 2, []) := by decide +kernel
theorem f_118_23 : mFetch 118 23 = some (.invokevirtual 151, 3, [122, 3, 2, 9, 610, 612, 7]) := by decide +kernel
theorem f_118_26 : mFetch 118 26 = some (.i2l, 1, []) := by decide +kernel
theorem f_118_27 : mFetch 118 27 = some (.ladd, 1, []) := by decide +kernel
theorem f_118_28 : mFetch 118 28 = some (.lstore 4, 2, []) := by decide +kernel
theorem f_118_30 : mFetch 118 30 = some (.iinc 6 1, 3, []) := by decide +kernel
theorem f_118_33 : mFetch 118 33 = some (.goto (-27), 3, [6]) := by decide +kernel
theorem f_118_36 : mFetch 118 36 = some (.iconst 0, 1, []) := by decide +kernel
theorem f_118_37 : mFetch 118 37 = some (.istore 6, 2, []) := by decide +kernel
theorem f_118_39 : mFetch 118 39 = some (.iload 6, 2, []) := by decide +kernel
theorem f_118_41 : mFetch 118 41 = some (.aload_n 0, 1, []) := by decide +kernel
theorem f_118_42 : mFetch 118 42 = some (.getfield 28, 3, [9, 2, 0, 447]) := by decide +kernel
theorem f_118_45 : mFetch 118 45 = some (.iconst 0, 1, []) := by decide +kernel
theorem f_118_46 : mFetch 118 46 = some (.invokevirtual 234, 3, [85, 2, 2, 8, 561, 562, 563]) := by decide +kernel
theorem f_118_49 : mFetch 118 49 = some (.if_icmp .ge 35, 3, [84]) := by decide +kernel
theorem f_118_52 : mFetch 118 52 = some (.lload 4, 2, []) := by decide +kernel
theorem f_118_54 : mFetch 118 54 = some (.ldc2_w 243, 3, [31, 805]) := by decide +kernel
theorem f_118_57 : mFetch 118 57 = some (.lmul, 1, []) := by decide +kernel
theorem f_118_58 : mFetch 118 58 = some (.aload_n 0, 1, []) := by decide +kernel
theorem f_118_59 : mFetch 118 59 = some (.getfield 62, 3, [9, 6, 0, 451]) := by decide +kernel
theorem f_118_62 : mFetch 118 62 = some (.iload_n 3, 1, []) := by decide +kernel
theorem f_118_63 : mFetch 118 63 = some (.invokevirtual 156, 3, [1, 2, 2, 0, 614, 576, 577]) := by decide +kernel
theorem f_118_66 : mFetch 118 66 = some (.getfield 160, 3, [4, 0, 1, 100]) := by decide +kernel
theorem f_118_69 : mFetch 118 69 = some (.iload 6, 2, []) := by decide +kernel
theorem f_118_71 : mFetch 118 71 = some (.invokestatic 107, 3, [123, 2, 0, 0, 592, 559]) := by decide +kernel
theorem f_118_74 : mFetch 118 74 = some (.i2l, 1, []) := by decide +kernel
theorem f_118_75 : mFetch 118 75 = some (.ladd, 1, []) := by decide +kernel
theorem f_118_76 : mFetch 118 76 = some (.lstore 4, 2, []) := by decide +kernel
theorem f_118_78 : mFetch 118 78 = some (.iinc 6 1, 3, []) := by decide +kernel
theorem f_118_81 : mFetch 118 81 = some (.goto (-42), 3, [39]) := by decide +kernel
theorem f_118_84 : mFetch 118 84 = some (.iconst 0, 1, []) := by decide +kernel
theorem f_118_85 : mFetch 118 85 = some (.istore 6, 2, []) := by decide +kernel
theorem f_118_87 : mFetch 118 87 = some (.iload 6, 2, []) := by decide +kernel
theorem f_118_89 : mFetch 118 89 = some (.aload_n 0, 1, []) := by decide +kernel
theorem f_118_90 : mFetch 118 90 = some (.getfield 28, 3, [9, 2, 0, 447]) := by decide +kernel
theorem f_118_93 : mFetch 118 93 = some (.iconst 1, 1, []) := by decide +kernel
theorem f_118_94 : mFetch 118 94 = some (.invokevirtual 234, 3, [85, 2, 2, 8, 561, 562, 563]) := by decide +kernel
theorem f_118_97 : mFetch 118 97 = some (.if_icmp .ge 35, 3, [132]) := by decide +kernel
theorem f_118_100 : mFetch 118 100 = some (.lload 4, 2, []) := by decide +kernel
theorem f_118_102 : mFetch 118 102 = some (.ldc2_w 243, 3, [31, 805]) := by decide +kernel
theorem f_118_105 : mFetch 118 105 = some (.lmul, 1, []) := by decide +kernel
theorem f_118_106 : mFetch 118 106 = some (.aload_n 0, 1, []) := by decide +kernel
theorem f_118_107 : mFetch 118 107 = some (.getfield 62, 3, [9, 6, 0, 451]) := by decide +kernel
theorem f_118_110 : mFetch 118 110 = some (.iload_n 3, 1, []) := by decide +kernel
theorem f_118_111 : mFetch 118 111 = some (.invokevirtual 156, 3, [1, 2, 2, 0, 614, 576, 577]) := by decide +kernel
theorem f_118_114 : mFetch 118 114 = some (.getfield 167, 3, [4, 1, 1, 101]) := by decide +kernel
theorem f_118_117 : mFetch 118 117 = some (.iload 6, 2, []) := by decide +kernel
theorem f_118_119 : mFetch 118 119 = some (.invokestatic 107, 3, [123, 2, 0, 0, 592, 559]) := by decide +kernel
theorem f_118_122 : mFetch 118 122 = some (.i2l, 1, []) := by decide +kernel
theorem f_118_123 : mFetch 118 123 = some (.ladd, 1, []) := by decide +kernel
theorem f_118_124 : mFetch 118 124 = some (.lstore 4, 2, []) := by decide +kernel
theorem f_118_126 : mFetch 118 126 = some (.iinc 6 1, 3, []) := by decide +kernel
theorem f_118_129 : mFetch 118 129 = some (.goto (-42), 3, [87]) := by decide +kernel
theorem f_118_132 : mFetch 118 132 = some (.lload 4, 2, []) := by decide +kernel
theorem f_118_134 : mFetch 118 134 = some (.lreturn, 1, []) := by decide +kernel
theorem b_118_0 {d : Nat} {a0 : Nat} {l1 : Int64} {x3 : Int32} {w : MW} : mX d 118 0 [.ref a0, .long l1, mJ, .int x3, mJ, mJ, mJ] [] w = mX d 118 6 [.ref a0, mJ, mJ, .int x3, .long l1, mJ, .int (nI 0)] [] w := by
  refine Eq.trans (X_st f_118_0 rfl rfl) ?_
  refine Eq.trans (X_lstore (L' := [.ref a0, .long l1, mJ, .int x3, .long l1, mJ, mJ]) f_118_1 (Nat.le_of_ble_eq_true rfl) rfl) ?_
  refine Eq.trans (X_iconst f_118_3 kc_i_0) ?_
  refine Eq.trans (X_istore (L' := [.ref a0, .long l1, mJ, .int x3, .long l1, mJ, .int (nI 0)]) f_118_4 (Nat.le_of_ble_eq_true rfl) rfl) ?_
  exact mX_mask rfl
theorem e_118 {d : Nat} {a0 : Nat} {l1 : Int64} {x3 : Int32} {w : MW} : mK d 118 [.ref a0, .long l1, .int x3] w = mX d 118 0 [.ref a0, .long l1, mJ, .int x3, mJ, mJ, mJ] [] w := rfl
theorem b_118_6 {d : Nat} {a0 : Nat} {x3 : Int32} {l4 : Int64} {x6 : Int32} {w : MW} : mX d 118 6 [.ref a0, mJ, mJ, .int x3, .long l4, mJ, .int x6] [] w = (if (nI 8) < x6 then mX d 118 36 [.ref a0, mJ, mJ, .int x3, .long l4, mJ, mJ] [] w else mX d 118 13 [.ref a0, mJ, mJ, .int x3, .long l4, mJ, .int x6] [] w) := by
  refine Eq.trans (X_st f_118_6 rfl rfl) ?_
  refine Eq.trans (X_bipush f_118_8 kc_b_8) ?_
  refine Eq.trans (X_br f_118_10 rfl rfl) ?_
  exact mIte_eq (mX_mask rfl) (mX_mask rfl)
theorem b_118_13 {d : Nat} {a0 : Nat} {x3 : Int32} {l4 : Int64} {x6 : Int32} {w : MW} (h0 : mTg w a0 = 9) : mX (d + 1) 118 13 [.ref a0, mJ, mJ, .int x3, .long l4, mJ, .int x6] [] w = mThen (mK d 122 [.ref a0, .int x3, .int x6] w) (fun v w9 => mX (d + 1) 118 26 [.ref a0, mJ, mJ, .int x3, mJ, mJ, .int x6] (v.toList ++ [.long (l4 * (31 : Int64))]) w9) := by
  refine Eq.trans (X_st f_118_13 rfl rfl) ?_
  refine Eq.trans (X_st f_118_15 rfl rfl) ?_
  refine Eq.trans (X_st f_118_18 rfl rfl) ?_
  refine Eq.trans (X_st f_118_19 rfl rfl) ?_
  refine Eq.trans (X_st f_118_20 rfl rfl) ?_
  refine Eq.trans (X_st f_118_21 rfl rfl) ?_
  refine Eq.trans (X_call f_118_23 (by decide) rfl rfl rfl rfl rfl rfl (Nat.le_of_ble_eq_true rfl) (Nat.le_of_ble_eq_true rfl) (decide_eq_true h0) (Nat.le_of_ble_eq_true rfl)) ?_
  exact mThen_eq fun v w9 => mX_mask rfl
theorem b_118_26 {d : Nat} {a0 : Nat} {x3 : Int32} {x6 : Int32} {y0 : Int32} {m1 : Int64} {w : MW} : mX d 118 26 [.ref a0, mJ, mJ, .int x3, mJ, mJ, .int x6] [.int y0, .long m1] w = mX d 118 6 [.ref a0, mJ, mJ, .int x3, .long (m1 + y0.toInt64), mJ, .int (x6 + (nI 1))] [] w := by
  refine Eq.trans (X_st f_118_26 rfl rfl) ?_
  refine Eq.trans (X_st f_118_27 rfl rfl) ?_
  refine Eq.trans (X_lstore (L' := [.ref a0, mJ, mJ, .int x3, .long (m1 + y0.toInt64), mJ, .int x6]) f_118_28 (Nat.le_of_ble_eq_true rfl) rfl) ?_
  refine Eq.trans (X_iinc f_118_30 kc_i_1 rfl rfl) ?_
  refine Eq.trans (X_st f_118_33 rfl rfl) ?_
  exact mX_mask rfl
theorem b_118_36 {d : Nat} {a0 : Nat} {x3 : Int32} {l4 : Int64} {w : MW} : mX d 118 36 [.ref a0, mJ, mJ, .int x3, .long l4, mJ, mJ] [] w = mX d 118 39 [.ref a0, mJ, mJ, .int x3, .long l4, mJ, .int (nI 0)] [] w := by
  refine Eq.trans (X_iconst f_118_36 kc_i_0) ?_
  refine Eq.trans (X_istore (L' := [.ref a0, mJ, mJ, .int x3, .long l4, mJ, .int (nI 0)]) f_118_37 (Nat.le_of_ble_eq_true rfl) rfl) ?_
  exact mX_mask rfl
theorem b_118_39 {d : Nat} {a0 : Nat} {x3 : Int32} {l4 : Int64} {x6 : Int32} {w : MW} (h0 : mTg w a0 = 9) (h1 : mR w a0 2 = some (gR w a0 2)) (h2 : mTg w (gR w a0 2) = 8) : mX (d + 1) 118 39 [.ref a0, mJ, mJ, .int x3, .long l4, mJ, .int x6] [] w = mThen (mK d 85 [.ref (gR w a0 2), .int (nI 0)] w) (fun v w9 => mX (d + 1) 118 49 [.ref a0, mJ, mJ, .int x3, .long l4, mJ, .int x6] (v.toList ++ [.int x6]) w9) := by
  refine Eq.trans (X_st f_118_39 rfl rfl) ?_
  refine Eq.trans (X_st f_118_41 rfl rfl) ?_
  refine Eq.trans (X_getR f_118_42 h0 rfl h1) ?_
  refine Eq.trans (X_iconst f_118_45 kc_i_0) ?_
  refine Eq.trans (X_call f_118_46 (by decide) rfl rfl rfl rfl rfl rfl (Nat.le_of_ble_eq_true rfl) (Nat.le_of_ble_eq_true rfl) (decide_eq_true h2) (Nat.le_of_ble_eq_true rfl)) ?_
  exact mThen_eq fun v w9 => mX_mask rfl
theorem b_118_49 {d : Nat} {a0 : Nat} {x3 : Int32} {l4 : Int64} {x6 : Int32} {y0 : Int32} {y1 : Int32} {w : MW} : mX d 118 49 [.ref a0, mJ, mJ, .int x3, .long l4, mJ, .int x6] [.int y0, .int y1] w = (if y0 ≤ y1 then mX d 118 84 [.ref a0, mJ, mJ, .int x3, .long l4, mJ, mJ] [] w else mX d 118 52 [.ref a0, mJ, mJ, .int x3, .long l4, mJ, .int x6] [] w) := by
  refine Eq.trans (X_br f_118_49 rfl rfl) ?_
  exact mIte_eq (mX_mask rfl) (mX_mask rfl)
theorem b_118_52 {d : Nat} {a0 : Nat} {x3 : Int32} {l4 : Int64} {x6 : Int32} {w : MW} (h0 : mTg w a0 = 9) (h1 : mR w a0 6 = some (gR w a0 6)) (h2 : mTg w (gR w a0 6) = 0) : mX (d + 1) 118 52 [.ref a0, mJ, mJ, .int x3, .long l4, mJ, .int x6] [] w = mThen (mK d 1 [.ref (gR w a0 6), .int x3] w) (fun v w9 => mX (d + 1) 118 66 [.ref a0, mJ, mJ, .int x3, mJ, mJ, .int x6] (v.toList ++ [.long (l4 * (31 : Int64))]) w9) := by
  refine Eq.trans (X_st f_118_52 rfl rfl) ?_
  refine Eq.trans (X_st f_118_54 rfl rfl) ?_
  refine Eq.trans (X_st f_118_57 rfl rfl) ?_
  refine Eq.trans (X_st f_118_58 rfl rfl) ?_
  refine Eq.trans (X_getR f_118_59 h0 rfl h1) ?_
  refine Eq.trans (X_st f_118_62 rfl rfl) ?_
  refine Eq.trans (X_call f_118_63 (by decide) rfl rfl rfl rfl rfl rfl (Nat.le_of_ble_eq_true rfl) (Nat.le_of_ble_eq_true rfl) (decide_eq_true h2) (Nat.le_of_ble_eq_true rfl)) ?_
  exact mThen_eq fun v w9 => mX_mask rfl
theorem b_118_66 {d : Nat} {a0 : Nat} {x3 : Int32} {x6 : Int32} {b0 : Nat} {m1 : Int64} {w : MW} (h0 : mTg w b0 = 4) (h1 : mR w b0 0 = some (gR w b0 0)) : mX (d + 1) 118 66 [.ref a0, mJ, mJ, .int x3, mJ, mJ, .int x6] [.ref b0, .long m1] w = mThen (mK d 123 [.ref (gR w b0 0), .int x6] w) (fun v w9 => mX (d + 1) 118 74 [.ref a0, mJ, mJ, .int x3, mJ, mJ, .int x6] (v.toList ++ [.long m1]) w9) := by
  refine Eq.trans (X_getR f_118_66 h0 rfl h1) ?_
  refine Eq.trans (X_st f_118_69 rfl rfl) ?_
  refine Eq.trans (X_call f_118_71 (by decide) rfl rfl rfl rfl rfl rfl (Nat.le_of_ble_eq_true rfl) (Nat.le_of_ble_eq_true rfl) rfl (Nat.le_of_ble_eq_true rfl)) ?_
  exact mThen_eq fun v w9 => mX_mask rfl
theorem b_118_74 {d : Nat} {a0 : Nat} {x3 : Int32} {x6 : Int32} {y0 : Int32} {m1 : Int64} {w : MW} : mX d 118 74 [.ref a0, mJ, mJ, .int x3, mJ, mJ, .int x6] [.int y0, .long m1] w = mX d 118 39 [.ref a0, mJ, mJ, .int x3, .long (m1 + y0.toInt64), mJ, .int (x6 + (nI 1))] [] w := by
  refine Eq.trans (X_st f_118_74 rfl rfl) ?_
  refine Eq.trans (X_st f_118_75 rfl rfl) ?_
  refine Eq.trans (X_lstore (L' := [.ref a0, mJ, mJ, .int x3, .long (m1 + y0.toInt64), mJ, .int x6]) f_118_76 (Nat.le_of_ble_eq_true rfl) rfl) ?_
  refine Eq.trans (X_iinc f_118_78 kc_i_1 rfl rfl) ?_
  refine Eq.trans (X_st f_118_81 rfl rfl) ?_
  exact mX_mask rfl
theorem b_118_84 {d : Nat} {a0 : Nat} {x3 : Int32} {l4 : Int64} {w : MW} : mX d 118 84 [.ref a0, mJ, mJ, .int x3, .long l4, mJ, mJ] [] w = mX d 118 87 [.ref a0, mJ, mJ, .int x3, .long l4, mJ, .int (nI 0)] [] w := by
  refine Eq.trans (X_iconst f_118_84 kc_i_0) ?_
  refine Eq.trans (X_istore (L' := [.ref a0, mJ, mJ, .int x3, .long l4, mJ, .int (nI 0)]) f_118_85 (Nat.le_of_ble_eq_true rfl) rfl) ?_
  exact mX_mask rfl
theorem b_118_87 {d : Nat} {a0 : Nat} {x3 : Int32} {l4 : Int64} {x6 : Int32} {w : MW} (h0 : mTg w a0 = 9) (h1 : mR w a0 2 = some (gR w a0 2)) (h2 : mTg w (gR w a0 2) = 8) : mX (d + 1) 118 87 [.ref a0, mJ, mJ, .int x3, .long l4, mJ, .int x6] [] w = mThen (mK d 85 [.ref (gR w a0 2), .int (nI 1)] w) (fun v w9 => mX (d + 1) 118 97 [.ref a0, mJ, mJ, .int x3, .long l4, mJ, .int x6] (v.toList ++ [.int x6]) w9) := by
  refine Eq.trans (X_st f_118_87 rfl rfl) ?_
  refine Eq.trans (X_st f_118_89 rfl rfl) ?_
  refine Eq.trans (X_getR f_118_90 h0 rfl h1) ?_
  refine Eq.trans (X_iconst f_118_93 kc_i_1) ?_
  refine Eq.trans (X_call f_118_94 (by decide) rfl rfl rfl rfl rfl rfl (Nat.le_of_ble_eq_true rfl) (Nat.le_of_ble_eq_true rfl) (decide_eq_true h2) (Nat.le_of_ble_eq_true rfl)) ?_
  exact mThen_eq fun v w9 => mX_mask rfl
theorem b_118_97 {d : Nat} {a0 : Nat} {x3 : Int32} {l4 : Int64} {x6 : Int32} {y0 : Int32} {y1 : Int32} {w : MW} : mX d 118 97 [.ref a0, mJ, mJ, .int x3, .long l4, mJ, .int x6] [.int y0, .int y1] w = (if y0 ≤ y1 then mX d 118 132 [mJ, mJ, mJ, mJ, .long l4, mJ, mJ] [] w else mX d 118 100 [.ref a0, mJ, mJ, .int x3, .long l4, mJ, .int x6] [] w) := by
  refine Eq.trans (X_br f_118_97 rfl rfl) ?_
  exact mIte_eq (mX_mask rfl) (mX_mask rfl)
theorem b_118_100 {d : Nat} {a0 : Nat} {x3 : Int32} {l4 : Int64} {x6 : Int32} {w : MW} (h0 : mTg w a0 = 9) (h1 : mR w a0 6 = some (gR w a0 6)) (h2 : mTg w (gR w a0 6) = 0) : mX (d + 1) 118 100 [.ref a0, mJ, mJ, .int x3, .long l4, mJ, .int x6] [] w = mThen (mK d 1 [.ref (gR w a0 6), .int x3] w) (fun v w9 => mX (d + 1) 118 114 [.ref a0, mJ, mJ, .int x3, mJ, mJ, .int x6] (v.toList ++ [.long (l4 * (31 : Int64))]) w9) := by
  refine Eq.trans (X_st f_118_100 rfl rfl) ?_
  refine Eq.trans (X_st f_118_102 rfl rfl) ?_
  refine Eq.trans (X_st f_118_105 rfl rfl) ?_
  refine Eq.trans (X_st f_118_106 rfl rfl) ?_
  refine Eq.trans (X_getR f_118_107 h0 rfl h1) ?_
  refine Eq.trans (X_st f_118_110 rfl rfl) ?_
  refine Eq.trans (X_call f_118_111 (by decide) rfl rfl rfl rfl rfl rfl (Nat.le_of_ble_eq_true rfl) (Nat.le_of_ble_eq_true rfl) (decide_eq_true h2) (Nat.le_of_ble_eq_true rfl)) ?_
  exact mThen_eq fun v w9 => mX_mask rfl
theorem b_118_114 {d : Nat} {a0 : Nat} {x3 : Int32} {x6 : Int32} {b0 : Nat} {m1 : Int64} {w : MW} (h0 : mTg w b0 = 4) (h1 : mR w b0 1 = some (gR w b0 1)) : mX (d + 1) 118 114 [.ref a0, mJ, mJ, .int x3, mJ, mJ, .int x6] [.ref b0, .long m1] w = mThen (mK d 123 [.ref (gR w b0 1), .int x6] w) (fun v w9 => mX (d + 1) 118 122 [.ref a0, mJ, mJ, .int x3, mJ, mJ, .int x6] (v.toList ++ [.long m1]) w9) := by
  refine Eq.trans (X_getR f_118_114 h0 rfl h1) ?_
  refine Eq.trans (X_st f_118_117 rfl rfl) ?_
  refine Eq.trans (X_call f_118_119 (by decide) rfl rfl rfl rfl rfl rfl (Nat.le_of_ble_eq_true rfl) (Nat.le_of_ble_eq_true rfl) rfl (Nat.le_of_ble_eq_true rfl)) ?_
  exact mThen_eq fun v w9 => mX_mask rfl
theorem b_118_122 {d : Nat} {a0 : Nat} {x3 : Int32} {x6 : Int32} {y0 : Int32} {m1 : Int64} {w : MW} : mX d 118 122 [.ref a0, mJ, mJ, .int x3, mJ, mJ, .int x6] [.int y0, .long m1] w = mX d 118 87 [.ref a0, mJ, mJ, .int x3, .long (m1 + y0.toInt64), mJ, .int (x6 + (nI 1))] [] w := by
  refine Eq.trans (X_st f_118_122 rfl rfl) ?_
  refine Eq.trans (X_st f_118_123 rfl rfl) ?_
  refine Eq.trans (X_lstore (L' := [.ref a0, mJ, mJ, .int x3, .long (m1 + y0.toInt64), mJ, .int x6]) f_118_124 (Nat.le_of_ble_eq_true rfl) rfl) ?_
  refine Eq.trans (X_iinc f_118_126 kc_i_1 rfl rfl) ?_
  refine Eq.trans (X_st f_118_129 rfl rfl) ?_
  exact mX_mask rfl
theorem b_118_132 {d : Nat} {l4 : Int64} {w : MW} : mX d 118 132 [mJ, mJ, mJ, mJ, .long l4, mJ, mJ] [] w = some (.inl (some (.long l4)), w) := by
  refine Eq.trans (X_st f_118_132 rfl rfl) ?_
  exact X_ret f_118_134 rfl rfl
/-! BeeTurnpike countOf (I)I -/
theorem f_119_0 : mFetch 119 0 = some (.iload_n 1, 1, []) := by decide +kernel
theorem f_119_1 : mFetch 119 1 = some (.lookupswitch 105 #[(0, 51), (7, 59), (8, 81), (9, 89), (17, 97)], 51, [106, 52, 60, 82, 90, 98]) := by decide +kernel
theorem f_119_52 : mFetch 119 52 = some (.aload_n 0, 1, []) := by decide +kernel
theorem f_119_53 : mFetch 119 53 = some (.getfield 62, 3, [9, 6, 0, 451]) := by decide +kernel
theorem f_119_56 : mFetch 119 56 = some (.getfield 249, 3, [0, 7, 1, 105]) := by decide +kernel
theorem f_119_59 : mFetch 119 59 = some (.ireturn, 1, [0]) := by decide +kernel
theorem f_119_60 : mFetch 119 60 = some (.aload_n 0, 1, []) := by decide +kernel
theorem f_119_61 : mFetch 119 61 = some (.getfield 62, 3, [9, 6, 0, 451]) := by decide +kernel
theorem f_119_64 : mFetch 119 64 = some (.invokevirtual 230, 3, [4, 1, 2, 0, 549, 550, 551]) := by decide +kernel
theorem f_119_67 : mFetch 119 67 = some (.ifCond .eq 7, 3, [74]) := by decide +kernel
theorem f_119_70 : mFetch 119 70 = some (.iconst (-1), 1, []) := by decide +kernel
theorem f_119_71 : mFetch 119 71 = some (.goto 10, 3, [81]) := by decide +kernel
theorem f_119_74 : mFetch 119 74 = some (.aload_n 0, 1, []) := by decide +kernel
theorem f_119_75 : mFetch 119 75 = some (.getfield 62, 3, [9, 6, 0, 451]) := by decide +kernel
theorem f_119_78 : mFetch 119 78 = some (.getfield 252, 3, [0, 8, 1, 106]) := by decide +kernel
theorem f_119_81 : mFetch 119 81 = some (.ireturn, 1, [0]) := by decide +kernel
theorem f_119_82 : mFetch 119 82 = some (.aload_n 0, 1, []) := by decide +kernel
theorem f_119_83 : mFetch 119 83 = some (.getfield 62, 3, [9, 6, 0, 451]) := by decide +kernel
theorem f_119_86 : mFetch 119 86 = some (.getfield 184, 3, [0, 11, 1, 102]) := by decide +kernel
theorem f_119_89 : mFetch 119 89 = some (.ireturn, 1, [0]) := by decide +kernel
theorem f_119_90 : mFetch 119 90 = some (.aload_n 0, 1, []) := by decide +kernel
theorem f_119_91 : mFetch 119 91 = some (.getfield 62, 3, [9, 6, 0, 451]) := by decide +kernel
theorem f_119_94 : mFetch 119 94 = some (.invokevirtual 255, 3, [5, 1, 2, 0, 553, 554, 555]) := by decide +kernel
theorem f_119_97 : mFetch 119 97 = some (.ireturn, 1, [0]) := by decide +kernel
theorem f_119_98 : mFetch 119 98 = some (.aload_n 0, 1, []) := by decide +kernel
theorem f_119_99 : mFetch 119 99 = some (.getfield 10, 3, [9, 0, 0, 445]) := by decide +kernel
theorem f_119_102 : mFetch 119 102 = some (.getfield 73, 3, [5, 1, 1, 96]) := by decide +kernel
theorem f_119_105 : mFetch 119 105 = some (.ireturn, 1, [0]) := by decide +kernel
theorem f_119_106 : mFetch 119 106 = some (.iload_n 1, 1, []) := by decide +kernel
theorem f_119_107 : mFetch 119 107 = some (.bipush 6, 2, []) := by decide +kernel
theorem f_119_109 : mFetch 119 109 = some (.if_icmp .gt 16, 3, [125]) := by decide +kernel
theorem f_119_112 : mFetch 119 112 = some (.aload_n 0, 1, []) := by decide +kernel
theorem f_119_113 : mFetch 119 113 = some (.getfield 28, 3, [9, 2, 0, 447]) := by decide +kernel
theorem f_119_116 : mFetch 119 116 = some (.iload_n 1, 1, []) := by decide +kernel
theorem f_119_117 : mFetch 119 117 = some (.iconst 1, 1, []) := by decide +kernel
theorem f_119_118 : mFetch 119 118 = some (.isub, 1, []) := by decide +kernel
theorem f_119_119 : mFetch 119 119 = some (.invokevirtual 234, 3, [85, 2, 2, 8, 561, 562, 563]) := by decide +kernel
theorem f_119_122 : mFetch 119 122 = some (.goto 11, 3, [133]) := by decide +kernel
theorem f_119_125 : mFetch 119 125 = some (.aload_n 0, 1, []) := by decide +kernel
theorem f_119_126 : mFetch 119 126 = some (.getfield 62, 3, [9, 6, 0, 451]) := by decide +kernel
theorem f_119_129 : mFetch 119 129 = some (.iload_n 1, 1, []) := by decide +kernel
theorem f_119_130 : mFetch 119 130 = some (.invokevirtual 223, 3, [8, 2, 2, 0, 566, 567, 568]) := by decide +kernel
theorem f_119_133 : mFetch 119 133 = some (.ireturn, 1, [0]) := by decide +kernel
theorem s_119_0_0 {d : Nat} {a0 : Nat} {x1 : Int32} {w : MW} (h0 : x1 = (nI 0)) : mX d 119 0 [.ref a0, .int x1] [] w = mX d 119 52 [.ref a0, mJ] [] w := by
  refine Eq.trans (X_st f_119_0 rfl rfl) ?_
  refine Eq.trans (X_sw f_119_1 rfl (congrArg Value.int h0) rfl) ?_
  exact mX_mask rfl
theorem s_119_0_7 {d : Nat} {a0 : Nat} {x1 : Int32} {w : MW} (h0 : x1 = (nI 7)) : mX d 119 0 [.ref a0, .int x1] [] w = mX d 119 60 [.ref a0, mJ] [] w := by
  refine Eq.trans (X_st f_119_0 rfl rfl) ?_
  refine Eq.trans (X_sw f_119_1 rfl (congrArg Value.int h0) rfl) ?_
  exact mX_mask rfl
theorem s_119_0_8 {d : Nat} {a0 : Nat} {x1 : Int32} {w : MW} (h0 : x1 = (nI 8)) : mX d 119 0 [.ref a0, .int x1] [] w = mX d 119 82 [.ref a0, mJ] [] w := by
  refine Eq.trans (X_st f_119_0 rfl rfl) ?_
  refine Eq.trans (X_sw f_119_1 rfl (congrArg Value.int h0) rfl) ?_
  exact mX_mask rfl
theorem s_119_0_9 {d : Nat} {a0 : Nat} {x1 : Int32} {w : MW} (h0 : x1 = (nI 9)) : mX d 119 0 [.ref a0, .int x1] [] w = mX d 119 90 [.ref a0, mJ] [] w := by
  refine Eq.trans (X_st f_119_0 rfl rfl) ?_
  refine Eq.trans (X_sw f_119_1 rfl (congrArg Value.int h0) rfl) ?_
  exact mX_mask rfl
theorem s_119_0_17 {d : Nat} {a0 : Nat} {x1 : Int32} {w : MW} (h0 : x1 = (nI 17)) : mX d 119 0 [.ref a0, .int x1] [] w = mX d 119 98 [.ref a0, mJ] [] w := by
  refine Eq.trans (X_st f_119_0 rfl rfl) ?_
  refine Eq.trans (X_sw f_119_1 rfl (congrArg Value.int h0) rfl) ?_
  exact mX_mask rfl
theorem s_119_0_d {d : Nat} {a0 : Nat} {x1 : Int32} {w : MW} (h0 : ¬ (0 : Int) = (x1).toInt ∧ ¬ (7 : Int) = (x1).toInt ∧ ¬ (8 : Int) = (x1).toInt ∧ ¬ (9 : Int) = (x1).toInt ∧ ¬ (17 : Int) = (x1).toInt) : mX d 119 0 [.ref a0, .int x1] [] w = mX d 119 106 [.ref a0, .int x1] [] w := by
  refine Eq.trans (X_st f_119_0 rfl rfl) ?_
  refine Eq.trans (X_st f_119_1 rfl (by simp only [mstep, mLook, List.drop, List.getD_eq_getElem?_getD, h0.1, h0.2.1, h0.2.2.1, h0.2.2.2.1, h0.2.2.2.2, if_false]; rfl)) ?_
  exact mX_mask rfl
theorem e_119 {d : Nat} {a0 : Nat} {x1 : Int32} {w : MW} : mK d 119 [.ref a0, .int x1] w = mX d 119 0 [.ref a0, .int x1] [] w := rfl
theorem b_119_52 {d : Nat} {a0 : Nat} {w : MW} (h0 : mTg w a0 = 9) (h1 : mR w a0 6 = some (gR w a0 6)) (h2 : mTg w (gR w a0 6) = 0) : mX d 119 52 [.ref a0, mJ] [] w = some (.inl (some (.int (mI w (gR w a0 6) 7))), w) := by
  refine Eq.trans (X_st f_119_52 rfl rfl) ?_
  refine Eq.trans (X_getR f_119_53 h0 rfl h1) ?_
  refine Eq.trans (X_getI f_119_56 h2 rfl) ?_
  exact X_ireturn f_119_59 rfl
theorem b_119_60 {d : Nat} {a0 : Nat} {w : MW} (h0 : mTg w a0 = 9) (h1 : mR w a0 6 = some (gR w a0 6)) (h2 : mTg w (gR w a0 6) = 0) : mX (d + 1) 119 60 [.ref a0, mJ] [] w = mThen (mK d 4 [.ref (gR w a0 6)] w) (fun v w9 => mX (d + 1) 119 67 [.ref a0, mJ] (v.toList ++ []) w9) := by
  refine Eq.trans (X_st f_119_60 rfl rfl) ?_
  refine Eq.trans (X_getR f_119_61 h0 rfl h1) ?_
  refine Eq.trans (X_call f_119_64 (by decide) rfl rfl rfl rfl rfl rfl (Nat.le_of_ble_eq_true rfl) (Nat.le_of_ble_eq_true rfl) (decide_eq_true h2) (Nat.le_of_ble_eq_true rfl)) ?_
  exact mThen_eq fun v w9 => mX_mask rfl
theorem b_119_67 {d : Nat} {a0 : Nat} {y0 : Int32} {w : MW} : mX d 119 67 [.ref a0, mJ] [.int y0] w = (if y0 = nI 0 then mX d 119 74 [.ref a0, mJ] [] w else mX d 119 70 [mJ, mJ] [] w) := by
  refine Eq.trans (X_br f_119_67 rfl rfl) ?_
  exact mIte_eq (mX_mask rfl) (mX_mask rfl)
theorem b_119_70 {d : Nat} {w : MW} : mX d 119 70 [mJ, mJ] [] w = mX d 119 81 [mJ, mJ] [.int (-1 : Int32)] w := by
  refine Eq.trans (X_iconst f_119_70 kc_i_m1) ?_
  refine Eq.trans (X_st f_119_71 rfl rfl) ?_
  exact mX_mask rfl
theorem b_119_74 {d : Nat} {a0 : Nat} {w : MW} (h0 : mTg w a0 = 9) (h1 : mR w a0 6 = some (gR w a0 6)) (h2 : mTg w (gR w a0 6) = 0) : mX d 119 74 [.ref a0, mJ] [] w = mX d 119 81 [mJ, mJ] [.int (mI w (gR w a0 6) 8)] w := by
  refine Eq.trans (X_st f_119_74 rfl rfl) ?_
  refine Eq.trans (X_getR f_119_75 h0 rfl h1) ?_
  refine Eq.trans (X_getI f_119_78 h2 rfl) ?_
  exact mX_mask rfl
theorem b_119_81 {d : Nat} {y0 : Int32} {w : MW} : mX d 119 81 [mJ, mJ] [.int y0] w = some (.inl (some (.int y0)), w) := by
  exact X_ireturn f_119_81 rfl
theorem b_119_82 {d : Nat} {a0 : Nat} {w : MW} (h0 : mTg w a0 = 9) (h1 : mR w a0 6 = some (gR w a0 6)) (h2 : mTg w (gR w a0 6) = 0) : mX d 119 82 [.ref a0, mJ] [] w = some (.inl (some (.int (mI w (gR w a0 6) 11))), w) := by
  refine Eq.trans (X_st f_119_82 rfl rfl) ?_
  refine Eq.trans (X_getR f_119_83 h0 rfl h1) ?_
  refine Eq.trans (X_getI f_119_86 h2 rfl) ?_
  exact X_ireturn f_119_89 rfl
theorem b_119_90 {d : Nat} {a0 : Nat} {w : MW} (h0 : mTg w a0 = 9) (h1 : mR w a0 6 = some (gR w a0 6)) (h2 : mTg w (gR w a0 6) = 0) : mX (d + 1) 119 90 [.ref a0, mJ] [] w = mThen (mK d 5 [.ref (gR w a0 6)] w) (fun v w9 => mX (d + 1) 119 97 [mJ, mJ] (v.toList ++ []) w9) := by
  refine Eq.trans (X_st f_119_90 rfl rfl) ?_
  refine Eq.trans (X_getR f_119_91 h0 rfl h1) ?_
  refine Eq.trans (X_call f_119_94 (by decide) rfl rfl rfl rfl rfl rfl (Nat.le_of_ble_eq_true rfl) (Nat.le_of_ble_eq_true rfl) (decide_eq_true h2) (Nat.le_of_ble_eq_true rfl)) ?_
  exact mThen_eq fun v w9 => mX_mask rfl
theorem b_119_97 {d : Nat} {y0 : Int32} {w : MW} : mX d 119 97 [mJ, mJ] [.int y0] w = some (.inl (some (.int y0)), w) := by
  exact X_ireturn f_119_97 rfl
theorem b_119_98 {d : Nat} {a0 : Nat} {w : MW} (h0 : mTg w a0 = 9) (h1 : mR w a0 0 = some (gR w a0 0)) (h2 : mTg w (gR w a0 0) = 5) : mX d 119 98 [.ref a0, mJ] [] w = some (.inl (some (.int (mI w (gR w a0 0) 1))), w) := by
  refine Eq.trans (X_st f_119_98 rfl rfl) ?_
  refine Eq.trans (X_getR f_119_99 h0 rfl h1) ?_
  refine Eq.trans (X_getI f_119_102 h2 rfl) ?_
  exact X_ireturn f_119_105 rfl
theorem b_119_106 {d : Nat} {a0 : Nat} {x1 : Int32} {w : MW} : mX d 119 106 [.ref a0, .int x1] [] w = (if (nI 6) < x1 then mX d 119 125 [.ref a0, .int x1] [] w else mX d 119 112 [.ref a0, .int x1] [] w) := by
  refine Eq.trans (X_st f_119_106 rfl rfl) ?_
  refine Eq.trans (X_bipush f_119_107 kc_b_6) ?_
  refine Eq.trans (X_br f_119_109 rfl rfl) ?_
  exact mIte_eq (mX_mask rfl) (mX_mask rfl)
theorem b_119_112 {d : Nat} {a0 : Nat} {x1 : Int32} {w : MW} (h0 : mTg w a0 = 9) (h1 : mR w a0 2 = some (gR w a0 2)) (h2 : mTg w (gR w a0 2) = 8) : mX (d + 1) 119 112 [.ref a0, .int x1] [] w = mThen (mK d 85 [.ref (gR w a0 2), .int (x1 - (nI 1))] w) (fun v w9 => mX (d + 1) 119 122 [mJ, mJ] (v.toList ++ []) w9) := by
  refine Eq.trans (X_st f_119_112 rfl rfl) ?_
  refine Eq.trans (X_getR f_119_113 h0 rfl h1) ?_
  refine Eq.trans (X_st f_119_116 rfl rfl) ?_
  refine Eq.trans (X_iconst f_119_117 kc_i_1) ?_
  refine Eq.trans (X_st f_119_118 rfl rfl) ?_
  refine Eq.trans (X_call f_119_119 (by decide) rfl rfl rfl rfl rfl rfl (Nat.le_of_ble_eq_true rfl) (Nat.le_of_ble_eq_true rfl) (decide_eq_true h2) (Nat.le_of_ble_eq_true rfl)) ?_
  exact mThen_eq fun v w9 => mX_mask rfl
theorem b_119_122 {d : Nat} {y0 : Int32} {w : MW} : mX d 119 122 [mJ, mJ] [.int y0] w = mX d 119 133 [mJ, mJ] [.int y0] w := by
  refine Eq.trans (X_st f_119_122 rfl rfl) ?_
  exact mX_mask rfl
theorem b_119_125 {d : Nat} {a0 : Nat} {x1 : Int32} {w : MW} (h0 : mTg w a0 = 9) (h1 : mR w a0 6 = some (gR w a0 6)) (h2 : mTg w (gR w a0 6) = 0) : mX (d + 1) 119 125 [.ref a0, .int x1] [] w = mThen (mK d 8 [.ref (gR w a0 6), .int x1] w) (fun v w9 => mX (d + 1) 119 133 [mJ, mJ] (v.toList ++ []) w9) := by
  refine Eq.trans (X_st f_119_125 rfl rfl) ?_
  refine Eq.trans (X_getR f_119_126 h0 rfl h1) ?_
  refine Eq.trans (X_st f_119_129 rfl rfl) ?_
  refine Eq.trans (X_call f_119_130 (by decide) rfl rfl rfl rfl rfl rfl (Nat.le_of_ble_eq_true rfl) (Nat.le_of_ble_eq_true rfl) (decide_eq_true h2) (Nat.le_of_ble_eq_true rfl)) ?_
  exact mThen_eq fun v w9 => mX_mask rfl
theorem b_119_133 {d : Nat} {y0 : Int32} {w : MW} : mX d 119 133 [mJ, mJ] [.int y0] w = some (.inl (some (.int y0)), w) := by
  exact X_ireturn f_119_133 rfl
/-! BeeTurnpike rootFact (II)I -/
theorem f_120_0 : mFetch 120 0 = some (.iload_n 2, 1, []) := by decide +kernel
theorem f_120_1 : mFetch 120 1 = some (.tableswitch 89 0 3 #[31, 43, 55, 67], 31, [90, 32, 44, 56, 68]) := by decide +kernel
theorem f_120_32 : mFetch 120 32 = some (.aload_n 0, 1, []) := by decide +kernel
theorem f_120_33 : mFetch 120 33 = some (.getfield 28, 3, [9, 2, 0, 447]) := by decide +kernel
theorem f_120_36 : mFetch 120 36 = some (.getfield 258, 3, [8, 2, 1, 107]) := by decide +kernel
theorem f_120_39 : mFetch 120 39 = some (.iload_n 1, 1, []) := by decide +kernel
theorem f_120_40 : mFetch 120 40 = some (.invokestatic 107, 3, [123, 2, 0, 0, 592, 559]) := by decide +kernel
theorem f_120_43 : mFetch 120 43 = some (.ireturn, 1, [0]) := by decide +kernel
theorem f_120_44 : mFetch 120 44 = some (.aload_n 0, 1, []) := by decide +kernel
theorem f_120_45 : mFetch 120 45 = some (.getfield 28, 3, [9, 2, 0, 447]) := by decide +kernel
theorem f_120_48 : mFetch 120 48 = some (.getfield 261, 3, [8, 3, 1, 108]) := by decide +kernel
theorem f_120_51 : mFetch 120 51 = some (.iload_n 1, 1, []) := by decide +kernel
theorem f_120_52 : mFetch 120 52 = some (.invokestatic 107, 3, [123, 2, 0, 0, 592, 559]) := by decide +kernel
theorem f_120_55 : mFetch 120 55 = some (.ireturn, 1, [0]) := by decide +kernel
theorem f_120_56 : mFetch 120 56 = some (.aload_n 0, 1, []) := by decide +kernel
theorem f_120_57 : mFetch 120 57 = some (.getfield 28, 3, [9, 2, 0, 447]) := by decide +kernel
theorem f_120_60 : mFetch 120 60 = some (.getfield 264, 3, [8, 4, 1, 109]) := by decide +kernel
theorem f_120_63 : mFetch 120 63 = some (.iload_n 1, 1, []) := by decide +kernel
theorem f_120_64 : mFetch 120 64 = some (.invokestatic 107, 3, [123, 2, 0, 0, 592, 559]) := by decide +kernel
theorem f_120_67 : mFetch 120 67 = some (.ireturn, 1, [0]) := by decide +kernel
theorem f_120_68 : mFetch 120 68 = some (.aload_n 0, 1, []) := by decide +kernel
theorem f_120_69 : mFetch 120 69 = some (.getfield 28, 3, [9, 2, 0, 447]) := by decide +kernel
theorem f_120_72 : mFetch 120 72 = some (.getfield 267, 3, [8, 1, 1, 110]) := by decide +kernel
theorem f_120_75 : mFetch 120 75 = some (.aload_n 0, 1, []) := by decide +kernel
theorem f_120_76 : mFetch 120 76 = some (.getfield 28, 3, [9, 2, 0, 447]) := by decide +kernel
theorem f_120_79 : mFetch 120 79 = some (.getfield 258, 3, [8, 2, 1, 107]) := by decide +kernel
theorem f_120_82 : mFetch 120 82 = some (.iload_n 1, 1, []) := by decide +kernel
theorem f_120_83 : mFetch 120 83 = some (.invokestatic 107, 3, [123, 2, 0, 0, 592, 559]) := by decide +kernel
theorem f_120_86 : mFetch 120 86 = some (.invokestatic 107, 3, [123, 2, 0, 0, 592, 559]) := by decide +kernel
theorem f_120_89 : mFetch 120 89 = some (.ireturn, 1, [0]) := by decide +kernel
theorem f_120_90 : mFetch 120 90 = some (.aload_n 0, 1, []) := by decide +kernel
theorem f_120_91 : mFetch 120 91 = some (.getfield 28, 3, [9, 2, 0, 447]) := by decide +kernel
theorem f_120_94 : mFetch 120 94 = some (.iload_n 1, 1, []) := by decide +kernel
theorem f_120_95 : mFetch 120 95 = some (.invokevirtual 270, 3, [90, 2, 2, 8, 810, 811, 812]) := by decide +kernel
theorem f_120_98 : mFetch 120 98 = some (.ireturn, 1, [0]) := by decide +kernel
theorem s_120_0_0 {d : Nat} {a0 : Nat} {x1 : Int32} {x2 : Int32} {w : MW} (h0 : x2 = (nI 0)) : mX d 120 0 [.ref a0, .int x1, .int x2] [] w = mX d 120 32 [.ref a0, .int x1, mJ] [] w := by
  refine Eq.trans (X_st f_120_0 rfl rfl) ?_
  refine Eq.trans (X_sw f_120_1 rfl (congrArg Value.int h0) rfl) ?_
  exact mX_mask rfl
theorem s_120_0_1 {d : Nat} {a0 : Nat} {x1 : Int32} {x2 : Int32} {w : MW} (h0 : x2 = (nI 1)) : mX d 120 0 [.ref a0, .int x1, .int x2] [] w = mX d 120 44 [.ref a0, .int x1, mJ] [] w := by
  refine Eq.trans (X_st f_120_0 rfl rfl) ?_
  refine Eq.trans (X_sw f_120_1 rfl (congrArg Value.int h0) rfl) ?_
  exact mX_mask rfl
theorem s_120_0_2 {d : Nat} {a0 : Nat} {x1 : Int32} {x2 : Int32} {w : MW} (h0 : x2 = (nI 2)) : mX d 120 0 [.ref a0, .int x1, .int x2] [] w = mX d 120 56 [.ref a0, .int x1, mJ] [] w := by
  refine Eq.trans (X_st f_120_0 rfl rfl) ?_
  refine Eq.trans (X_sw f_120_1 rfl (congrArg Value.int h0) rfl) ?_
  exact mX_mask rfl
theorem s_120_0_3 {d : Nat} {a0 : Nat} {x1 : Int32} {x2 : Int32} {w : MW} (h0 : x2 = (nI 3)) : mX d 120 0 [.ref a0, .int x1, .int x2] [] w = mX d 120 68 [.ref a0, .int x1, mJ] [] w := by
  refine Eq.trans (X_st f_120_0 rfl rfl) ?_
  refine Eq.trans (X_sw f_120_1 rfl (congrArg Value.int h0) rfl) ?_
  exact mX_mask rfl
theorem s_120_0_d {d : Nat} {a0 : Nat} {x1 : Int32} {x2 : Int32} {w : MW} (h0 : (x2).toInt < 0 ∨ 3 < (x2).toInt) : mX d 120 0 [.ref a0, .int x1, .int x2] [] w = mX d 120 90 [.ref a0, .int x1, mJ] [] w := by
  refine Eq.trans (X_st f_120_0 rfl rfl) ?_
  refine Eq.trans (X_swD f_120_1 h0 rfl) ?_
  exact mX_mask rfl
theorem e_120 {d : Nat} {a0 : Nat} {x1 : Int32} {x2 : Int32} {w : MW} : mK d 120 [.ref a0, .int x1, .int x2] w = mX d 120 0 [.ref a0, .int x1, .int x2] [] w := rfl
theorem b_120_32 {d : Nat} {a0 : Nat} {x1 : Int32} {w : MW} (h0 : mTg w a0 = 9) (h1 : mR w a0 2 = some (gR w a0 2)) (h2 : mTg w (gR w a0 2) = 8) (h3 : mR w (gR w a0 2) 2 = some (gR w (gR w a0 2) 2)) : mX (d + 1) 120 32 [.ref a0, .int x1, mJ] [] w = mThen (mK d 123 [.ref (gR w (gR w a0 2) 2), .int x1] w) (fun v w9 => mX (d + 1) 120 43 [mJ, mJ, mJ] (v.toList ++ []) w9) := by
  refine Eq.trans (X_st f_120_32 rfl rfl) ?_
  refine Eq.trans (X_getR f_120_33 h0 rfl h1) ?_
  refine Eq.trans (X_getR f_120_36 h2 rfl h3) ?_
  refine Eq.trans (X_st f_120_39 rfl rfl) ?_
  refine Eq.trans (X_call f_120_40 (by decide) rfl rfl rfl rfl rfl rfl (Nat.le_of_ble_eq_true rfl) (Nat.le_of_ble_eq_true rfl) rfl (Nat.le_of_ble_eq_true rfl)) ?_
  exact mThen_eq fun v w9 => mX_mask rfl
theorem b_120_43 {d : Nat} {y0 : Int32} {w : MW} : mX d 120 43 [mJ, mJ, mJ] [.int y0] w = some (.inl (some (.int y0)), w) := by
  exact X_ireturn f_120_43 rfl
theorem b_120_44 {d : Nat} {a0 : Nat} {x1 : Int32} {w : MW} (h0 : mTg w a0 = 9) (h1 : mR w a0 2 = some (gR w a0 2)) (h2 : mTg w (gR w a0 2) = 8) (h3 : mR w (gR w a0 2) 3 = some (gR w (gR w a0 2) 3)) : mX (d + 1) 120 44 [.ref a0, .int x1, mJ] [] w = mThen (mK d 123 [.ref (gR w (gR w a0 2) 3), .int x1] w) (fun v w9 => mX (d + 1) 120 55 [mJ, mJ, mJ] (v.toList ++ []) w9) := by
  refine Eq.trans (X_st f_120_44 rfl rfl) ?_
  refine Eq.trans (X_getR f_120_45 h0 rfl h1) ?_
  refine Eq.trans (X_getR f_120_48 h2 rfl h3) ?_
  refine Eq.trans (X_st f_120_51 rfl rfl) ?_
  refine Eq.trans (X_call f_120_52 (by decide) rfl rfl rfl rfl rfl rfl (Nat.le_of_ble_eq_true rfl) (Nat.le_of_ble_eq_true rfl) rfl (Nat.le_of_ble_eq_true rfl)) ?_
  exact mThen_eq fun v w9 => mX_mask rfl
theorem b_120_55 {d : Nat} {y0 : Int32} {w : MW} : mX d 120 55 [mJ, mJ, mJ] [.int y0] w = some (.inl (some (.int y0)), w) := by
  exact X_ireturn f_120_55 rfl
theorem b_120_56 {d : Nat} {a0 : Nat} {x1 : Int32} {w : MW} (h0 : mTg w a0 = 9) (h1 : mR w a0 2 = some (gR w a0 2)) (h2 : mTg w (gR w a0 2) = 8) (h3 : mR w (gR w a0 2) 4 = some (gR w (gR w a0 2) 4)) : mX (d + 1) 120 56 [.ref a0, .int x1, mJ] [] w = mThen (mK d 123 [.ref (gR w (gR w a0 2) 4), .int x1] w) (fun v w9 => mX (d + 1) 120 67 [mJ, mJ, mJ] (v.toList ++ []) w9) := by
  refine Eq.trans (X_st f_120_56 rfl rfl) ?_
  refine Eq.trans (X_getR f_120_57 h0 rfl h1) ?_
  refine Eq.trans (X_getR f_120_60 h2 rfl h3) ?_
  refine Eq.trans (X_st f_120_63 rfl rfl) ?_
  refine Eq.trans (X_call f_120_64 (by decide) rfl rfl rfl rfl rfl rfl (Nat.le_of_ble_eq_true rfl) (Nat.le_of_ble_eq_true rfl) rfl (Nat.le_of_ble_eq_true rfl)) ?_
  exact mThen_eq fun v w9 => mX_mask rfl
theorem b_120_67 {d : Nat} {y0 : Int32} {w : MW} : mX d 120 67 [mJ, mJ, mJ] [.int y0] w = some (.inl (some (.int y0)), w) := by
  exact X_ireturn f_120_67 rfl
theorem b_120_68 {d : Nat} {a0 : Nat} {x1 : Int32} {w : MW} (h0 : mTg w a0 = 9) (h1 : mR w a0 2 = some (gR w a0 2)) (h2 : mTg w (gR w a0 2) = 8) (h3 : mR w (gR w a0 2) 1 = some (gR w (gR w a0 2) 1)) (h4 : mR w (gR w a0 2) 2 = some (gR w (gR w a0 2) 2)) : mX (d + 1) 120 68 [.ref a0, .int x1, mJ] [] w = mThen (mK d 123 [.ref (gR w (gR w a0 2) 2), .int x1] w) (fun v w9 => mX (d + 1) 120 86 [mJ, mJ, mJ] (v.toList ++ [.ref (gR w (gR w a0 2) 1)]) w9) := by
  refine Eq.trans (X_st f_120_68 rfl rfl) ?_
  refine Eq.trans (X_getR f_120_69 h0 rfl h1) ?_
  refine Eq.trans (X_getR f_120_72 h2 rfl h3) ?_
  refine Eq.trans (X_st f_120_75 rfl rfl) ?_
  refine Eq.trans (X_getR f_120_76 h0 rfl h1) ?_
  refine Eq.trans (X_getR f_120_79 h2 rfl h4) ?_
  refine Eq.trans (X_st f_120_82 rfl rfl) ?_
  refine Eq.trans (X_call f_120_83 (by decide) rfl rfl rfl rfl rfl rfl (Nat.le_of_ble_eq_true rfl) (Nat.le_of_ble_eq_true rfl) rfl (Nat.le_of_ble_eq_true rfl)) ?_
  exact mThen_eq fun v w9 => mX_mask rfl
theorem b_120_86 {d : Nat} {y0 : Int32} {b1 : Nat} {w : MW} : mX (d + 1) 120 86 [mJ, mJ, mJ] [.int y0, .ref b1] w = mThen (mK d 123 [.ref b1, .int y0] w) (fun v w9 => mX (d + 1) 120 89 [mJ, mJ, mJ] (v.toList ++ []) w9) := by
  refine Eq.trans (X_call f_120_86 (by decide) rfl rfl rfl rfl rfl rfl (Nat.le_of_ble_eq_true rfl) (Nat.le_of_ble_eq_true rfl) rfl (Nat.le_of_ble_eq_true rfl)) ?_
  exact mThen_eq fun v w9 => mX_mask rfl
theorem b_120_89 {d : Nat} {y0 : Int32} {w : MW} : mX d 120 89 [mJ, mJ, mJ] [.int y0] w = some (.inl (some (.int y0)), w) := by
  exact X_ireturn f_120_89 rfl
theorem b_120_90 {d : Nat} {a0 : Nat} {x1 : Int32} {w : MW} (h0 : mTg w a0 = 9) (h1 : mR w a0 2 = some (gR w a0 2)) (h2 : mTg w (gR w a0 2) = 8) : mX (d + 1) 120 90 [.ref a0, .int x1, mJ] [] w = mThen (mK d 90 [.ref (gR w a0 2), .int x1] w) (fun v w9 => mX (d + 1) 120 98 [mJ, mJ, mJ] (v.toList ++ []) w9) := by
  refine Eq.trans (X_st f_120_90 rfl rfl) ?_
  refine Eq.trans (X_getR f_120_91 h0 rfl h1) ?_
  refine Eq.trans (X_st f_120_94 rfl rfl) ?_
  refine Eq.trans (X_call f_120_95 (by decide) rfl rfl rfl rfl rfl rfl (Nat.le_of_ble_eq_true rfl) (Nat.le_of_ble_eq_true rfl) (decide_eq_true h2) (Nat.le_of_ble_eq_true rfl)) ?_
  exact mThen_eq fun v w9 => mX_mask rfl
theorem b_120_98 {d : Nat} {y0 : Int32} {w : MW} : mX d 120 98 [mJ, mJ, mJ] [.int y0] w = some (.inl (some (.int y0)), w) := by
  exact X_ireturn f_120_98 rfl
/-! BeeTurnpike wordFact (II)I -/
theorem f_121_0 : mFetch 121 0 = some (.iload_n 2, 1, []) := by decide +kernel
theorem f_121_1 : mFetch 121 1 = some (.tableswitch 73 0 3 #[31, 43, 52, 61], 31, [74, 32, 44, 53, 62]) := by decide +kernel
theorem f_121_32 : mFetch 121 32 = some (.aload_n 0, 1, []) := by decide +kernel
theorem f_121_33 : mFetch 121 33 = some (.getfield 28, 3, [9, 2, 0, 447]) := by decide +kernel
theorem f_121_36 : mFetch 121 36 = some (.getfield 141, 3, [8, 5, 1, 99]) := by decide +kernel
theorem f_121_39 : mFetch 121 39 = some (.iload_n 1, 1, []) := by decide +kernel
theorem f_121_40 : mFetch 121 40 = some (.invokestatic 107, 3, [123, 2, 0, 0, 592, 559]) := by decide +kernel
theorem f_121_43 : mFetch 121 43 = some (.ireturn, 1, [0]) := by decide +kernel
theorem f_121_44 : mFetch 121 44 = some (.aload_n 0, 1, []) := by decide +kernel
theorem f_121_45 : mFetch 121 45 = some (.getfield 28, 3, [9, 2, 0, 447]) := by decide +kernel
theorem f_121_48 : mFetch 121 48 = some (.iload_n 1, 1, []) := by decide +kernel
theorem f_121_49 : mFetch 121 49 = some (.invokevirtual 273, 3, [89, 2, 2, 8, 593, 594, 595]) := by decide +kernel
theorem f_121_52 : mFetch 121 52 = some (.ireturn, 1, [0]) := by decide +kernel
theorem f_121_53 : mFetch 121 53 = some (.aload_n 0, 1, []) := by decide +kernel
theorem f_121_54 : mFetch 121 54 = some (.getfield 28, 3, [9, 2, 0, 447]) := by decide +kernel
theorem f_121_57 : mFetch 121 57 = some (.iload_n 1, 1, []) := by decide +kernel
theorem f_121_58 : mFetch 121 58 = some (.invokevirtual 276, 3, [87, 2, 2, 8, 601, 602, 603]) := by decide +kernel
theorem f_121_61 : mFetch 121 61 = some (.ireturn, 1, [0]) := by decide +kernel
theorem f_121_62 : mFetch 121 62 = some (.aload_n 0, 1, []) := by decide +kernel
theorem f_121_63 : mFetch 121 63 = some (.getfield 62, 3, [9, 6, 0, 451]) := by decide +kernel
theorem f_121_66 : mFetch 121 66 = some (.getfield 279, 3, [0, 5, 1, 111]) := by decide +kernel
theorem f_121_69 : mFetch 121 69 = some (.iload_n 1, 1, []) := by decide +kernel
theorem f_121_70 : mFetch 121 70 = some (.invokestatic 107, 3, [123, 2, 0, 0, 592, 559]) := by decide +kernel
theorem f_121_73 : mFetch 121 73 = some (.ireturn, 1, [0]) := by decide +kernel
theorem f_121_74 : mFetch 121 74 = some (.aload_n 0, 1, []) := by decide +kernel
theorem f_121_75 : mFetch 121 75 = some (.getfield 62, 3, [9, 6, 0, 451]) := by decide +kernel
theorem f_121_78 : mFetch 121 78 = some (.getfield 282, 3, [0, 6, 1, 112]) := by decide +kernel
theorem f_121_81 : mFetch 121 81 = some (.iload_n 1, 1, []) := by decide +kernel
theorem f_121_82 : mFetch 121 82 = some (.invokestatic 107, 3, [123, 2, 0, 0, 592, 559]) := by decide +kernel
theorem f_121_85 : mFetch 121 85 = some (.ireturn, 1, [0]) := by decide +kernel
theorem s_121_0_0 {d : Nat} {a0 : Nat} {x1 : Int32} {x2 : Int32} {w : MW} (h0 : x2 = (nI 0)) : mX d 121 0 [.ref a0, .int x1, .int x2] [] w = mX d 121 32 [.ref a0, .int x1, mJ] [] w := by
  refine Eq.trans (X_st f_121_0 rfl rfl) ?_
  refine Eq.trans (X_sw f_121_1 rfl (congrArg Value.int h0) rfl) ?_
  exact mX_mask rfl
theorem s_121_0_1 {d : Nat} {a0 : Nat} {x1 : Int32} {x2 : Int32} {w : MW} (h0 : x2 = (nI 1)) : mX d 121 0 [.ref a0, .int x1, .int x2] [] w = mX d 121 44 [.ref a0, .int x1, mJ] [] w := by
  refine Eq.trans (X_st f_121_0 rfl rfl) ?_
  refine Eq.trans (X_sw f_121_1 rfl (congrArg Value.int h0) rfl) ?_
  exact mX_mask rfl
theorem s_121_0_2 {d : Nat} {a0 : Nat} {x1 : Int32} {x2 : Int32} {w : MW} (h0 : x2 = (nI 2)) : mX d 121 0 [.ref a0, .int x1, .int x2] [] w = mX d 121 53 [.ref a0, .int x1, mJ] [] w := by
  refine Eq.trans (X_st f_121_0 rfl rfl) ?_
  refine Eq.trans (X_sw f_121_1 rfl (congrArg Value.int h0) rfl) ?_
  exact mX_mask rfl
theorem s_121_0_3 {d : Nat} {a0 : Nat} {x1 : Int32} {x2 : Int32} {w : MW} (h0 : x2 = (nI 3)) : mX d 121 0 [.ref a0, .int x1, .int x2] [] w = mX d 121 62 [.ref a0, .int x1, mJ] [] w := by
  refine Eq.trans (X_st f_121_0 rfl rfl) ?_
  refine Eq.trans (X_sw f_121_1 rfl (congrArg Value.int h0) rfl) ?_
  exact mX_mask rfl
theorem s_121_0_d {d : Nat} {a0 : Nat} {x1 : Int32} {x2 : Int32} {w : MW} (h0 : (x2).toInt < 0 ∨ 3 < (x2).toInt) : mX d 121 0 [.ref a0, .int x1, .int x2] [] w = mX d 121 74 [.ref a0, .int x1, mJ] [] w := by
  refine Eq.trans (X_st f_121_0 rfl rfl) ?_
  refine Eq.trans (X_swD f_121_1 h0 rfl) ?_
  exact mX_mask rfl
theorem e_121 {d : Nat} {a0 : Nat} {x1 : Int32} {x2 : Int32} {w : MW} : mK d 121 [.ref a0, .int x1, .int x2] w = mX d 121 0 [.ref a0, .int x1, .int x2] [] w := rfl
theorem b_121_32 {d : Nat} {a0 : Nat} {x1 : Int32} {w : MW} (h0 : mTg w a0 = 9) (h1 : mR w a0 2 = some (gR w a0 2)) (h2 : mTg w (gR w a0 2) = 8) (h3 : mR w (gR w a0 2) 5 = some (gR w (gR w a0 2) 5)) : mX (d + 1) 121 32 [.ref a0, .int x1, mJ] [] w = mThen (mK d 123 [.ref (gR w (gR w a0 2) 5), .int x1] w) (fun v w9 => mX (d + 1) 121 43 [mJ, mJ, mJ] (v.toList ++ []) w9) := by
  refine Eq.trans (X_st f_121_32 rfl rfl) ?_
  refine Eq.trans (X_getR f_121_33 h0 rfl h1) ?_
  refine Eq.trans (X_getR f_121_36 h2 rfl h3) ?_
  refine Eq.trans (X_st f_121_39 rfl rfl) ?_
  refine Eq.trans (X_call f_121_40 (by decide) rfl rfl rfl rfl rfl rfl (Nat.le_of_ble_eq_true rfl) (Nat.le_of_ble_eq_true rfl) rfl (Nat.le_of_ble_eq_true rfl)) ?_
  exact mThen_eq fun v w9 => mX_mask rfl
theorem b_121_43 {d : Nat} {y0 : Int32} {w : MW} : mX d 121 43 [mJ, mJ, mJ] [.int y0] w = some (.inl (some (.int y0)), w) := by
  exact X_ireturn f_121_43 rfl
theorem b_121_44 {d : Nat} {a0 : Nat} {x1 : Int32} {w : MW} (h0 : mTg w a0 = 9) (h1 : mR w a0 2 = some (gR w a0 2)) (h2 : mTg w (gR w a0 2) = 8) : mX (d + 1) 121 44 [.ref a0, .int x1, mJ] [] w = mThen (mK d 89 [.ref (gR w a0 2), .int x1] w) (fun v w9 => mX (d + 1) 121 52 [mJ, mJ, mJ] (v.toList ++ []) w9) := by
  refine Eq.trans (X_st f_121_44 rfl rfl) ?_
  refine Eq.trans (X_getR f_121_45 h0 rfl h1) ?_
  refine Eq.trans (X_st f_121_48 rfl rfl) ?_
  refine Eq.trans (X_call f_121_49 (by decide) rfl rfl rfl rfl rfl rfl (Nat.le_of_ble_eq_true rfl) (Nat.le_of_ble_eq_true rfl) (decide_eq_true h2) (Nat.le_of_ble_eq_true rfl)) ?_
  exact mThen_eq fun v w9 => mX_mask rfl
theorem b_121_52 {d : Nat} {y0 : Int32} {w : MW} : mX d 121 52 [mJ, mJ, mJ] [.int y0] w = some (.inl (some (.int y0)), w) := by
  exact X_ireturn f_121_52 rfl
theorem b_121_53 {d : Nat} {a0 : Nat} {x1 : Int32} {w : MW} (h0 : mTg w a0 = 9) (h1 : mR w a0 2 = some (gR w a0 2)) (h2 : mTg w (gR w a0 2) = 8) : mX (d + 1) 121 53 [.ref a0, .int x1, mJ] [] w = mThen (mK d 87 [.ref (gR w a0 2), .int x1] w) (fun v w9 => mX (d + 1) 121 61 [mJ, mJ, mJ] (v.toList ++ []) w9) := by
  refine Eq.trans (X_st f_121_53 rfl rfl) ?_
  refine Eq.trans (X_getR f_121_54 h0 rfl h1) ?_
  refine Eq.trans (X_st f_121_57 rfl rfl) ?_
  refine Eq.trans (X_call f_121_58 (by decide) rfl rfl rfl rfl rfl rfl (Nat.le_of_ble_eq_true rfl) (Nat.le_of_ble_eq_true rfl) (decide_eq_true h2) (Nat.le_of_ble_eq_true rfl)) ?_
  exact mThen_eq fun v w9 => mX_mask rfl
theorem b_121_61 {d : Nat} {y0 : Int32} {w : MW} : mX d 121 61 [mJ, mJ, mJ] [.int y0] w = some (.inl (some (.int y0)), w) := by
  exact X_ireturn f_121_61 rfl
theorem b_121_62 {d : Nat} {a0 : Nat} {x1 : Int32} {w : MW} (h0 : mTg w a0 = 9) (h1 : mR w a0 6 = some (gR w a0 6)) (h2 : mTg w (gR w a0 6) = 0) (h3 : mR w (gR w a0 6) 5 = some (gR w (gR w a0 6) 5)) : mX (d + 1) 121 62 [.ref a0, .int x1, mJ] [] w = mThen (mK d 123 [.ref (gR w (gR w a0 6) 5), .int x1] w) (fun v w9 => mX (d + 1) 121 73 [mJ, mJ, mJ] (v.toList ++ []) w9) := by
  refine Eq.trans (X_st f_121_62 rfl rfl) ?_
  refine Eq.trans (X_getR f_121_63 h0 rfl h1) ?_
  refine Eq.trans (X_getR f_121_66 h2 rfl h3) ?_
  refine Eq.trans (X_st f_121_69 rfl rfl) ?_
  refine Eq.trans (X_call f_121_70 (by decide) rfl rfl rfl rfl rfl rfl (Nat.le_of_ble_eq_true rfl) (Nat.le_of_ble_eq_true rfl) rfl (Nat.le_of_ble_eq_true rfl)) ?_
  exact mThen_eq fun v w9 => mX_mask rfl
theorem b_121_73 {d : Nat} {y0 : Int32} {w : MW} : mX d 121 73 [mJ, mJ, mJ] [.int y0] w = some (.inl (some (.int y0)), w) := by
  exact X_ireturn f_121_73 rfl
theorem b_121_74 {d : Nat} {a0 : Nat} {x1 : Int32} {w : MW} (h0 : mTg w a0 = 9) (h1 : mR w a0 6 = some (gR w a0 6)) (h2 : mTg w (gR w a0 6) = 0) (h3 : mR w (gR w a0 6) 6 = some (gR w (gR w a0 6) 6)) : mX (d + 1) 121 74 [.ref a0, .int x1, mJ] [] w = mThen (mK d 123 [.ref (gR w (gR w a0 6) 6), .int x1] w) (fun v w9 => mX (d + 1) 121 85 [mJ, mJ, mJ] (v.toList ++ []) w9) := by
  refine Eq.trans (X_st f_121_74 rfl rfl) ?_
  refine Eq.trans (X_getR f_121_75 h0 rfl h1) ?_
  refine Eq.trans (X_getR f_121_78 h2 rfl h3) ?_
  refine Eq.trans (X_st f_121_81 rfl rfl) ?_
  refine Eq.trans (X_call f_121_82 (by decide) rfl rfl rfl rfl rfl rfl (Nat.le_of_ble_eq_true rfl) (Nat.le_of_ble_eq_true rfl) rfl (Nat.le_of_ble_eq_true rfl)) ?_
  exact mThen_eq fun v w9 => mX_mask rfl
theorem b_121_85 {d : Nat} {y0 : Int32} {w : MW} : mX d 121 85 [mJ, mJ, mJ] [.int y0] w = some (.inl (some (.int y0)), w) := by
  exact X_ireturn f_121_85 rfl
/-! BeeTurnpike spellerFact (II)I -/
theorem f_122_0 : mFetch 122 0 = some (.aload_n 0, 1, []) := by decide +kernel
theorem f_122_1 : mFetch 122 1 = some (.getfield 62, 3, [9, 6, 0, 451]) := by decide +kernel
theorem f_122_4 : mFetch 122 4 = some (.iload_n 1, 1, []) := by decide +kernel
theorem f_122_5 : mFetch 122 5 = some (.invokevirtual 156, 3, [1, 2, 2, 0, 614, 576, 577]) := by decide +kernel
theorem f_122_8 : mFetch 122 8 = some (.astore_n 3, 1, []) := by decide +kernel
theorem f_122_9 : mFetch 122 9 = some (.iload_n 2, 1, []) := by decide +kernel
theorem f_122_10 : mFetch 122 10 = some (.tableswitch 102 0 7 #[46, 59, 64, 69, 74, 87, 92, 97], 46, [112, 56, 69, 74, 79, 84, 97, 102, 107]) := by decide +kernel
theorem f_122_56 : mFetch 122 56 = some (.aload_n 3, 1, []) := by decide +kernel
theorem f_122_57 : mFetch 122 57 = some (.getfield 226, 3, [4, 2, 1, 104]) := by decide +kernel
theorem f_122_60 : mFetch 122 60 = some (.ifCond .eq 7, 3, [67]) := by decide +kernel
theorem f_122_63 : mFetch 122 63 = some (.iconst 1, 1, []) := by decide +kernel
theorem f_122_64 : mFetch 122 64 = some (.goto 4, 3, [68]) := by decide +kernel
theorem f_122_67 : mFetch 122 67 = some (.iconst 0, 1, []) := by decide +kernel
theorem f_122_68 : mFetch 122 68 = some (.ireturn, 1, [0]) := by decide +kernel
theorem f_122_69 : mFetch 122 69 = some (.aload_n 3, 1, []) := by decide +kernel
theorem f_122_70 : mFetch 122 70 = some (.getfield 187, 3, [4, 5, 1, 103]) := by decide +kernel
theorem f_122_73 : mFetch 122 73 = some (.ireturn, 1, [0]) := by decide +kernel
theorem f_122_74 : mFetch 122 74 = some (.aload_n 3, 1, []) := by decide +kernel
theorem f_122_75 : mFetch 122 75 = some (.getfield 285, 3, [4, 6, 1, 113]) := by decide +kernel
theorem f_122_78 : mFetch 122 78 = some (.ireturn, 1, [0]) := by decide +kernel
theorem f_122_79 : mFetch 122 79 = some (.aload_n 3, 1, []) := by decide +kernel
theorem f_122_80 : mFetch 122 80 = some (.getfield 288, 3, [4, 7, 1, 114]) := by decide +kernel
theorem f_122_83 : mFetch 122 83 = some (.ireturn, 1, [0]) := by decide +kernel
theorem f_122_84 : mFetch 122 84 = some (.aload_n 3, 1, []) := by decide +kernel
theorem f_122_85 : mFetch 122 85 = some (.getfield 291, 3, [4, 4, 1, 115]) := by decide +kernel
theorem f_122_88 : mFetch 122 88 = some (.ifCond .eq 7, 3, [95]) := by decide +kernel
theorem f_122_91 : mFetch 122 91 = some (.iconst 1, 1, []) := by decide +kernel
theorem f_122_92 : mFetch 122 92 = some (.goto 4, 3, [96]) := by decide +kernel
theorem f_122_95 : mFetch 122 95 = some (.iconst 0, 1, []) := by decide +kernel
theorem f_122_96 : mFetch 122 96 = some (.ireturn, 1, [0]) := by decide +kernel
theorem f_122_97 : mFetch 122 97 = some (.aload_n 3, 1, []) := by decide +kernel
theorem f_122_98 : mFetch 122 98 = some (.getfield 294, 3, [4, 8, 1, 116]) := by decide +kernel
theorem f_122_101 : mFetch 122 101 = some (.ireturn, 1, [0]) := by decide +kernel
theorem f_122_102 : mFetch 122 102 = some (.aload_n 3, 1, []) := by decide +kernel
theorem f_122_103 : mFetch 122 103 = some (.getfield 297, 3, [4, 9, 1, 117]) := by decide +kernel
theorem f_122_106 : mFetch 122 106 = some (.ireturn, 1, [0]) := by decide +kernel
theorem f_122_107 : mFetch 122 107 = some (.aload_n 3, 1, []) := by decide +kernel
theorem f_122_108 : mFetch 122 108 = some (.getfield 300, 3, [4, 10, 1, 118]) := by decide +kernel
theorem f_122_111 : mFetch 122 111 = some (.ireturn, 1, [0]) := by decide +kernel
theorem f_122_112 : mFetch 122 112 = some (.aload_n 0, 1, []) := by decide +kernel
theorem f_122_113 : mFetch 122 113 = some (.getfield 62, 3, [9, 6, 0, 451]) := by decide +kernel
theorem f_122_116 : mFetch 122 116 = some (.iload_n 1, 1, []) := by decide +kernel
theorem f_122_117 : mFetch 122 117 = some (.invokevirtual 235, 3, [9, 2, 2, 0, 615, 616, 617]) := by decide +kernel
theorem f_122_120 : mFetch 122 120 = some (.ireturn, 1, [0]) := by decide +kernel
theorem b_122_0 {d : Nat} {a0 : Nat} {x1 : Int32} {x2 : Int32} {w : MW} (h0 : mTg w a0 = 9) (h1 : mR w a0 6 = some (gR w a0 6)) (h2 : mTg w (gR w a0 6) = 0) : mX (d + 1) 122 0 [.ref a0, .int x1, .int x2, mJ] [] w = mThen (mK d 1 [.ref (gR w a0 6), .int x1] w) (fun v w9 => mX (d + 1) 122 8 [.ref a0, .int x1, .int x2, mJ] (v.toList ++ []) w9) := by
  refine Eq.trans (X_st f_122_0 rfl rfl) ?_
  refine Eq.trans (X_getR f_122_1 h0 rfl h1) ?_
  refine Eq.trans (X_st f_122_4 rfl rfl) ?_
  refine Eq.trans (X_call f_122_5 (by decide) rfl rfl rfl rfl rfl rfl (Nat.le_of_ble_eq_true rfl) (Nat.le_of_ble_eq_true rfl) (decide_eq_true h2) (Nat.le_of_ble_eq_true rfl)) ?_
  exact mThen_eq fun v w9 => mX_mask rfl
theorem e_122 {d : Nat} {a0 : Nat} {x1 : Int32} {x2 : Int32} {w : MW} : mK d 122 [.ref a0, .int x1, .int x2] w = mX d 122 0 [.ref a0, .int x1, .int x2, mJ] [] w := rfl
theorem s_122_8_0 {d : Nat} {a0 : Nat} {x1 : Int32} {x2 : Int32} {b0 : Nat} {w : MW} (h0 : x2 = (nI 0)) : mX d 122 8 [.ref a0, .int x1, .int x2, mJ] [.ref b0] w = mX d 122 56 [mJ, mJ, mJ, .ref b0] [] w := by
  refine Eq.trans (X_astore_n (L' := [.ref a0, .int x1, .int x2, .ref b0]) f_122_8 (Nat.le_of_ble_eq_true rfl) rfl) ?_
  refine Eq.trans (X_st f_122_9 rfl rfl) ?_
  refine Eq.trans (X_sw f_122_10 rfl (congrArg Value.int h0) rfl) ?_
  exact mX_mask rfl
theorem s_122_8_1 {d : Nat} {a0 : Nat} {x1 : Int32} {x2 : Int32} {b0 : Nat} {w : MW} (h0 : x2 = (nI 1)) : mX d 122 8 [.ref a0, .int x1, .int x2, mJ] [.ref b0] w = mX d 122 69 [mJ, mJ, mJ, .ref b0] [] w := by
  refine Eq.trans (X_astore_n (L' := [.ref a0, .int x1, .int x2, .ref b0]) f_122_8 (Nat.le_of_ble_eq_true rfl) rfl) ?_
  refine Eq.trans (X_st f_122_9 rfl rfl) ?_
  refine Eq.trans (X_sw f_122_10 rfl (congrArg Value.int h0) rfl) ?_
  exact mX_mask rfl
theorem s_122_8_2 {d : Nat} {a0 : Nat} {x1 : Int32} {x2 : Int32} {b0 : Nat} {w : MW} (h0 : x2 = (nI 2)) : mX d 122 8 [.ref a0, .int x1, .int x2, mJ] [.ref b0] w = mX d 122 74 [mJ, mJ, mJ, .ref b0] [] w := by
  refine Eq.trans (X_astore_n (L' := [.ref a0, .int x1, .int x2, .ref b0]) f_122_8 (Nat.le_of_ble_eq_true rfl) rfl) ?_
  refine Eq.trans (X_st f_122_9 rfl rfl) ?_
  refine Eq.trans (X_sw f_122_10 rfl (congrArg Value.int h0) rfl) ?_
  exact mX_mask rfl
theorem s_122_8_3 {d : Nat} {a0 : Nat} {x1 : Int32} {x2 : Int32} {b0 : Nat} {w : MW} (h0 : x2 = (nI 3)) : mX d 122 8 [.ref a0, .int x1, .int x2, mJ] [.ref b0] w = mX d 122 79 [mJ, mJ, mJ, .ref b0] [] w := by
  refine Eq.trans (X_astore_n (L' := [.ref a0, .int x1, .int x2, .ref b0]) f_122_8 (Nat.le_of_ble_eq_true rfl) rfl) ?_
  refine Eq.trans (X_st f_122_9 rfl rfl) ?_
  refine Eq.trans (X_sw f_122_10 rfl (congrArg Value.int h0) rfl) ?_
  exact mX_mask rfl
theorem s_122_8_4 {d : Nat} {a0 : Nat} {x1 : Int32} {x2 : Int32} {b0 : Nat} {w : MW} (h0 : x2 = (nI 4)) : mX d 122 8 [.ref a0, .int x1, .int x2, mJ] [.ref b0] w = mX d 122 84 [mJ, mJ, mJ, .ref b0] [] w := by
  refine Eq.trans (X_astore_n (L' := [.ref a0, .int x1, .int x2, .ref b0]) f_122_8 (Nat.le_of_ble_eq_true rfl) rfl) ?_
  refine Eq.trans (X_st f_122_9 rfl rfl) ?_
  refine Eq.trans (X_sw f_122_10 rfl (congrArg Value.int h0) rfl) ?_
  exact mX_mask rfl
theorem s_122_8_5 {d : Nat} {a0 : Nat} {x1 : Int32} {x2 : Int32} {b0 : Nat} {w : MW} (h0 : x2 = (nI 5)) : mX d 122 8 [.ref a0, .int x1, .int x2, mJ] [.ref b0] w = mX d 122 97 [mJ, mJ, mJ, .ref b0] [] w := by
  refine Eq.trans (X_astore_n (L' := [.ref a0, .int x1, .int x2, .ref b0]) f_122_8 (Nat.le_of_ble_eq_true rfl) rfl) ?_
  refine Eq.trans (X_st f_122_9 rfl rfl) ?_
  refine Eq.trans (X_sw f_122_10 rfl (congrArg Value.int h0) rfl) ?_
  exact mX_mask rfl
theorem s_122_8_6 {d : Nat} {a0 : Nat} {x1 : Int32} {x2 : Int32} {b0 : Nat} {w : MW} (h0 : x2 = (nI 6)) : mX d 122 8 [.ref a0, .int x1, .int x2, mJ] [.ref b0] w = mX d 122 102 [mJ, mJ, mJ, .ref b0] [] w := by
  refine Eq.trans (X_astore_n (L' := [.ref a0, .int x1, .int x2, .ref b0]) f_122_8 (Nat.le_of_ble_eq_true rfl) rfl) ?_
  refine Eq.trans (X_st f_122_9 rfl rfl) ?_
  refine Eq.trans (X_sw f_122_10 rfl (congrArg Value.int h0) rfl) ?_
  exact mX_mask rfl
theorem s_122_8_7 {d : Nat} {a0 : Nat} {x1 : Int32} {x2 : Int32} {b0 : Nat} {w : MW} (h0 : x2 = (nI 7)) : mX d 122 8 [.ref a0, .int x1, .int x2, mJ] [.ref b0] w = mX d 122 107 [mJ, mJ, mJ, .ref b0] [] w := by
  refine Eq.trans (X_astore_n (L' := [.ref a0, .int x1, .int x2, .ref b0]) f_122_8 (Nat.le_of_ble_eq_true rfl) rfl) ?_
  refine Eq.trans (X_st f_122_9 rfl rfl) ?_
  refine Eq.trans (X_sw f_122_10 rfl (congrArg Value.int h0) rfl) ?_
  exact mX_mask rfl
theorem s_122_8_d {d : Nat} {a0 : Nat} {x1 : Int32} {x2 : Int32} {b0 : Nat} {w : MW} (h0 : (x2).toInt < 0 ∨ 7 < (x2).toInt) : mX d 122 8 [.ref a0, .int x1, .int x2, mJ] [.ref b0] w = mX d 122 112 [.ref a0, .int x1, mJ, mJ] [] w := by
  refine Eq.trans (X_astore_n (L' := [.ref a0, .int x1, .int x2, .ref b0]) f_122_8 (Nat.le_of_ble_eq_true rfl) rfl) ?_
  refine Eq.trans (X_st f_122_9 rfl rfl) ?_
  refine Eq.trans (X_swD f_122_10 h0 rfl) ?_
  exact mX_mask rfl
theorem b_122_56 {d : Nat} {a3 : Nat} {w : MW} (h0 : mTg w a3 = 4) : mX d 122 56 [mJ, mJ, mJ, .ref a3] [] w = (if (mI w a3 2) = nI 0 then mX d 122 67 [mJ, mJ, mJ, mJ] [] w else mX d 122 63 [mJ, mJ, mJ, mJ] [] w) := by
  refine Eq.trans (X_st f_122_56 rfl rfl) ?_
  refine Eq.trans (X_getI f_122_57 h0 rfl) ?_
  refine Eq.trans (X_br f_122_60 rfl rfl) ?_
  exact mIte_eq (mX_mask rfl) (mX_mask rfl)
theorem b_122_63 {d : Nat} {w : MW} : mX d 122 63 [mJ, mJ, mJ, mJ] [] w = mX d 122 68 [mJ, mJ, mJ, mJ] [.int (nI 1)] w := by
  refine Eq.trans (X_iconst f_122_63 kc_i_1) ?_
  refine Eq.trans (X_st f_122_64 rfl rfl) ?_
  exact mX_mask rfl
theorem b_122_67 {d : Nat} {w : MW} : mX d 122 67 [mJ, mJ, mJ, mJ] [] w = mX d 122 68 [mJ, mJ, mJ, mJ] [.int (nI 0)] w := by
  refine Eq.trans (X_iconst f_122_67 kc_i_0) ?_
  exact mX_mask rfl
theorem b_122_68 {d : Nat} {y0 : Int32} {w : MW} : mX d 122 68 [mJ, mJ, mJ, mJ] [.int y0] w = some (.inl (some (.int y0)), w) := by
  exact X_ireturn f_122_68 rfl
theorem b_122_69 {d : Nat} {a3 : Nat} {w : MW} (h0 : mTg w a3 = 4) : mX d 122 69 [mJ, mJ, mJ, .ref a3] [] w = some (.inl (some (.int (mI w a3 5))), w) := by
  refine Eq.trans (X_st f_122_69 rfl rfl) ?_
  refine Eq.trans (X_getI f_122_70 h0 rfl) ?_
  exact X_ireturn f_122_73 rfl
theorem b_122_74 {d : Nat} {a3 : Nat} {w : MW} (h0 : mTg w a3 = 4) : mX d 122 74 [mJ, mJ, mJ, .ref a3] [] w = some (.inl (some (.int (mI w a3 6))), w) := by
  refine Eq.trans (X_st f_122_74 rfl rfl) ?_
  refine Eq.trans (X_getI f_122_75 h0 rfl) ?_
  exact X_ireturn f_122_78 rfl
theorem b_122_79 {d : Nat} {a3 : Nat} {w : MW} (h0 : mTg w a3 = 4) : mX d 122 79 [mJ, mJ, mJ, .ref a3] [] w = some (.inl (some (.int (mI w a3 7))), w) := by
  refine Eq.trans (X_st f_122_79 rfl rfl) ?_
  refine Eq.trans (X_getI f_122_80 h0 rfl) ?_
  exact X_ireturn f_122_83 rfl
theorem b_122_84 {d : Nat} {a3 : Nat} {w : MW} (h0 : mTg w a3 = 4) : mX d 122 84 [mJ, mJ, mJ, .ref a3] [] w = (if (mI w a3 4) = nI 0 then mX d 122 95 [mJ, mJ, mJ, mJ] [] w else mX d 122 91 [mJ, mJ, mJ, mJ] [] w) := by
  refine Eq.trans (X_st f_122_84 rfl rfl) ?_
  refine Eq.trans (X_getI f_122_85 h0 rfl) ?_
  refine Eq.trans (X_br f_122_88 rfl rfl) ?_
  exact mIte_eq (mX_mask rfl) (mX_mask rfl)
theorem b_122_91 {d : Nat} {w : MW} : mX d 122 91 [mJ, mJ, mJ, mJ] [] w = mX d 122 96 [mJ, mJ, mJ, mJ] [.int (nI 1)] w := by
  refine Eq.trans (X_iconst f_122_91 kc_i_1) ?_
  refine Eq.trans (X_st f_122_92 rfl rfl) ?_
  exact mX_mask rfl
theorem b_122_95 {d : Nat} {w : MW} : mX d 122 95 [mJ, mJ, mJ, mJ] [] w = mX d 122 96 [mJ, mJ, mJ, mJ] [.int (nI 0)] w := by
  refine Eq.trans (X_iconst f_122_95 kc_i_0) ?_
  exact mX_mask rfl
theorem b_122_96 {d : Nat} {y0 : Int32} {w : MW} : mX d 122 96 [mJ, mJ, mJ, mJ] [.int y0] w = some (.inl (some (.int y0)), w) := by
  exact X_ireturn f_122_96 rfl
theorem b_122_97 {d : Nat} {a3 : Nat} {w : MW} (h0 : mTg w a3 = 4) : mX d 122 97 [mJ, mJ, mJ, .ref a3] [] w = some (.inl (some (.int (mI w a3 8))), w) := by
  refine Eq.trans (X_st f_122_97 rfl rfl) ?_
  refine Eq.trans (X_getI f_122_98 h0 rfl) ?_
  exact X_ireturn f_122_101 rfl
theorem b_122_102 {d : Nat} {a3 : Nat} {w : MW} (h0 : mTg w a3 = 4) : mX d 122 102 [mJ, mJ, mJ, .ref a3] [] w = some (.inl (some (.int (mI w a3 9))), w) := by
  refine Eq.trans (X_st f_122_102 rfl rfl) ?_
  refine Eq.trans (X_getI f_122_103 h0 rfl) ?_
  exact X_ireturn f_122_106 rfl
theorem b_122_107 {d : Nat} {a3 : Nat} {w : MW} (h0 : mTg w a3 = 4) : mX d 122 107 [mJ, mJ, mJ, .ref a3] [] w = some (.inl (some (.int (mI w a3 10))), w) := by
  refine Eq.trans (X_st f_122_107 rfl rfl) ?_
  refine Eq.trans (X_getI f_122_108 h0 rfl) ?_
  exact X_ireturn f_122_111 rfl
theorem b_122_112 {d : Nat} {a0 : Nat} {x1 : Int32} {w : MW} (h0 : mTg w a0 = 9) (h1 : mR w a0 6 = some (gR w a0 6)) (h2 : mTg w (gR w a0 6) = 0) : mX (d + 1) 122 112 [.ref a0, .int x1, mJ, mJ] [] w = mThen (mK d 9 [.ref (gR w a0 6), .int x1] w) (fun v w9 => mX (d + 1) 122 120 [mJ, mJ, mJ, mJ] (v.toList ++ []) w9) := by
  refine Eq.trans (X_st f_122_112 rfl rfl) ?_
  refine Eq.trans (X_getR f_122_113 h0 rfl h1) ?_
  refine Eq.trans (X_st f_122_116 rfl rfl) ?_
  refine Eq.trans (X_call f_122_117 (by decide) rfl rfl rfl rfl rfl rfl (Nat.le_of_ble_eq_true rfl) (Nat.le_of_ble_eq_true rfl) (decide_eq_true h2) (Nat.le_of_ble_eq_true rfl)) ?_
  exact mThen_eq fun v w9 => mX_mask rfl
theorem b_122_120 {d : Nat} {y0 : Int32} {w : MW} : mX d 122 120 [mJ, mJ, mJ, mJ] [.int y0] w = some (.inl (some (.int y0)), w) := by
  exact X_ireturn f_122_120 rfl
/-! BeeTurnpike get ([II)I -/
theorem f_123_0 : mFetch 123 0 = some (.iload_n 1, 1, []) := by decide +kernel
theorem f_123_1 : mFetch 123 1 = some (.ifCond .lt 15, 3, [16]) := by decide +kernel
theorem f_123_4 : mFetch 123 4 = some (.iload_n 1, 1, []) := by decide +kernel
theorem f_123_5 : mFetch 123 5 = some (.aload_n 0, 1, []) := by decide +kernel
theorem f_123_6 : mFetch 123 6 = some (.arraylength, 1, []) := by decide +kernel
theorem f_123_7 : mFetch 123 7 = some (.if_icmp .ge 9, 3, [16]) := by decide +kernel
theorem f_123_10 : mFetch 123 10 = some (.aload_n 0, 1, []) := by decide +kernel
theorem f_123_11 : mFetch 123 11 = some (.iload_n 1, 1, []) := by decide +kernel
theorem f_123_12 : mFetch 123 12 = some (.iaload, 1, []) := by decide +kernel
theorem f_123_13 : mFetch 123 13 = some (.goto 4, 3, [17]) := by decide +kernel
theorem f_123_16 : mFetch 123 16 = some (.iconst 0, 1, []) := by decide +kernel
theorem f_123_17 : mFetch 123 17 = some (.ireturn, 1, [0]) := by decide +kernel
theorem b_123_0 {d : Nat} {a0 : Nat} {x1 : Int32} {w : MW} : mX d 123 0 [.ref a0, .int x1] [] w = (if x1 < nI 0 then mX d 123 16 [mJ, mJ] [] w else mX d 123 4 [.ref a0, .int x1] [] w) := by
  refine Eq.trans (X_st f_123_0 rfl rfl) ?_
  refine Eq.trans (X_br f_123_1 rfl rfl) ?_
  exact mIte_eq (mX_mask rfl) (mX_mask rfl)
theorem e_123 {d : Nat} {a0 : Nat} {x1 : Int32} {w : MW} : mK d 123 [.ref a0, .int x1] w = mX d 123 0 [.ref a0, .int x1] [] w := rfl
theorem b_123_4 {d : Nat} {a0 : Nat} {x1 : Int32} {w : MW} (h0 : 50 ≤ mTg w a0 ∧ mTg w a0 < 55) : mX d 123 4 [.ref a0, .int x1] [] w = (if (nI (mLn w a0)) ≤ x1 then mX d 123 16 [mJ, mJ] [] w else mX d 123 10 [.ref a0, .int x1] [] w) := by
  refine Eq.trans (X_st f_123_4 rfl rfl) ?_
  refine Eq.trans (X_st f_123_5 rfl rfl) ?_
  refine Eq.trans (X_st f_123_6 rfl (if_pos h0)) ?_
  refine Eq.trans (X_br f_123_7 rfl rfl) ?_
  exact mIte_eq (mX_mask rfl) (mX_mask rfl)
theorem b_123_10 {d : Nat} {a0 : Nat} {x1 : Int32} {w : MW} (h0 : mTg w a0 = 50) (h1 : ¬ x1 < nI 0) (h2 : x1.toNatClampNeg < mLn w a0) : mX d 123 10 [.ref a0, .int x1] [] w = mX d 123 17 [mJ, mJ] [.int (mI w a0 x1.toNatClampNeg)] w := by
  refine Eq.trans (X_st f_123_10 rfl rfl) ?_
  refine Eq.trans (X_st f_123_11 rfl rfl) ?_
  refine Eq.trans (X_iald f_123_12 h0 h1 rfl h2) ?_
  refine Eq.trans (X_st f_123_13 rfl rfl) ?_
  exact mX_mask rfl
theorem b_123_16 {d : Nat} {w : MW} : mX d 123 16 [mJ, mJ] [] w = mX d 123 17 [mJ, mJ] [.int (nI 0)] w := by
  refine Eq.trans (X_iconst f_123_16 kc_i_0) ?_
  exact mX_mask rfl
theorem b_123_17 {d : Nat} {y0 : Int32} {w : MW} : mX d 123 17 [mJ, mJ] [.int y0] w = some (.inl (some (.int y0)), w) := by
  exact X_ireturn f_123_17 rfl
/-! BeeTurnpike put ([III)V -/
theorem f_124_0 : mFetch 124 0 = some (.iload_n 1, 1, []) := by decide +kernel
theorem f_124_1 : mFetch 124 1 = some (.ifCond .lt 13, 3, [14]) := by decide +kernel
theorem f_124_4 : mFetch 124 4 = some (.iload_n 1, 1, []) := by decide +kernel
theorem f_124_5 : mFetch 124 5 = some (.aload_n 0, 1, []) := by decide +kernel
theorem f_124_6 : mFetch 124 6 = some (.arraylength, 1, []) := by decide +kernel
theorem f_124_7 : mFetch 124 7 = some (.if_icmp .ge 7, 3, [14]) := by decide +kernel
theorem f_124_10 : mFetch 124 10 = some (.aload_n 0, 1, []) := by decide +kernel
theorem f_124_11 : mFetch 124 11 = some (.iload_n 1, 1, []) := by decide +kernel
theorem f_124_12 : mFetch 124 12 = some (.iload_n 2, 1, []) := by decide +kernel
theorem f_124_13 : mFetch 124 13 = some (.iastore, 1, []) := by decide +kernel
theorem f_124_14 : mFetch 124 14 = some (.return_, 1, []) := by decide +kernel
theorem b_124_0 {d : Nat} {a0 : Nat} {x1 : Int32} {x2 : Int32} {w : MW} : mX d 124 0 [.ref a0, .int x1, .int x2] [] w = (if x1 < nI 0 then mX d 124 14 [mJ, mJ, mJ] [] w else mX d 124 4 [.ref a0, .int x1, .int x2] [] w) := by
  refine Eq.trans (X_st f_124_0 rfl rfl) ?_
  refine Eq.trans (X_br f_124_1 rfl rfl) ?_
  exact mIte_eq (mX_mask rfl) (mX_mask rfl)
theorem e_124 {d : Nat} {a0 : Nat} {x1 : Int32} {x2 : Int32} {w : MW} : mK d 124 [.ref a0, .int x1, .int x2] w = mX d 124 0 [.ref a0, .int x1, .int x2] [] w := rfl
theorem b_124_4 {d : Nat} {a0 : Nat} {x1 : Int32} {x2 : Int32} {w : MW} (h0 : 50 ≤ mTg w a0 ∧ mTg w a0 < 55) : mX d 124 4 [.ref a0, .int x1, .int x2] [] w = (if (nI (mLn w a0)) ≤ x1 then mX d 124 14 [mJ, mJ, mJ] [] w else mX d 124 10 [.ref a0, .int x1, .int x2] [] w) := by
  refine Eq.trans (X_st f_124_4 rfl rfl) ?_
  refine Eq.trans (X_st f_124_5 rfl rfl) ?_
  refine Eq.trans (X_st f_124_6 rfl (if_pos h0)) ?_
  refine Eq.trans (X_br f_124_7 rfl rfl) ?_
  exact mIte_eq (mX_mask rfl) (mX_mask rfl)
theorem b_124_10 {d : Nat} {a0 : Nat} {x1 : Int32} {x2 : Int32} {w : MW} (h0 : mTg w a0 = 50) (h1 : mE ≤ a0) (h2 : ¬ x1 < nI 0) (h3 : x1.toNatClampNeg < mLn w a0) : mX d 124 10 [.ref a0, .int x1, .int x2] [] w = mX d 124 14 [mJ, mJ, mJ] [] (wI w a0 x1.toNatClampNeg x2) := by
  refine Eq.trans (X_st f_124_10 rfl rfl) ?_
  refine Eq.trans (X_st f_124_11 rfl rfl) ?_
  refine Eq.trans (X_st f_124_12 rfl rfl) ?_
  refine Eq.trans (X_iast f_124_13 h0 h1 h2 rfl h3) ?_
  exact mX_mask rfl
theorem b_124_14 {d : Nat} {w : MW} : mX d 124 14 [mJ, mJ, mJ] [] w = some (.inl none, w) := by
  exact X_ret f_124_14 rfl rfl
/-! BeeTurnpike copy ([I[I)V -/
theorem f_125_0 : mFetch 125 0 = some (.aload_n 0, 1, []) := by decide +kernel
theorem f_125_1 : mFetch 125 1 = some (.iconst 0, 1, []) := by decide +kernel
theorem f_125_2 : mFetch 125 2 = some (.aload_n 1, 1, []) := by decide +kernel
theorem f_125_3 : mFetch 125 3 = some (.iconst 0, 1, []) := by decide +kernel
theorem f_125_4 : mFetch 125 4 = some (.aload_n 0, 1, []) := by decide +kernel
theorem f_125_5 : mFetch 125 5 = some (.arraylength, 1, []) := by decide +kernel
theorem f_125_6 : mFetch 125 6 = some (.aload_n 1, 1, []) := by decide +kernel
theorem f_125_7 : mFetch 125 7 = some (.arraylength, 1, []) := by decide +kernel
theorem f_125_8 : mFetch 125 8 = some (.invokestatic 200, 3, [183, 2, 0, 0, 773, 639]) := by decide +kernel
theorem f_125_11 : mFetch 125 11 = some (.invokestatic 303, 3, [1000, 774]) := by decide +kernel
theorem f_125_14 : mFetch 125 14 = some (.return_, 1, []) := by decide +kernel
theorem b_125_0 {d : Nat} {a0 : Nat} {a1 : Nat} {w : MW} (h0 : 50 ≤ mTg w a0 ∧ mTg w a0 < 55) (h1 : 50 ≤ mTg w a1 ∧ mTg w a1 < 55) : mX (d + 1) 125 0 [.ref a0, .ref a1] [] w = mThen (mK d 183 [.int (nI (mLn w a0)), .int (nI (mLn w a1))] w) (fun v w9 => mX (d + 1) 125 11 [mJ, mJ] (v.toList ++ [.int (nI 0), .ref a1, .int (nI 0), .ref a0]) w9) := by
  refine Eq.trans (X_st f_125_0 rfl rfl) ?_
  refine Eq.trans (X_iconst f_125_1 kc_i_0) ?_
  refine Eq.trans (X_st f_125_2 rfl rfl) ?_
  refine Eq.trans (X_iconst f_125_3 kc_i_0) ?_
  refine Eq.trans (X_st f_125_4 rfl rfl) ?_
  refine Eq.trans (X_st f_125_5 rfl (if_pos h0)) ?_
  refine Eq.trans (X_st f_125_6 rfl rfl) ?_
  refine Eq.trans (X_st f_125_7 rfl (if_pos h1)) ?_
  refine Eq.trans (X_call f_125_8 (by decide) rfl rfl rfl rfl rfl rfl (Nat.le_of_ble_eq_true rfl) (Nat.le_of_ble_eq_true rfl) rfl (Nat.le_of_ble_eq_true rfl)) ?_
  exact mThen_eq fun v w9 => mX_mask rfl
theorem e_125 {d : Nat} {a0 : Nat} {a1 : Nat} {w : MW} : mK d 125 [.ref a0, .ref a1] w = mX d 125 0 [.ref a0, .ref a1] [] w := rfl
theorem b_125_11 {d : Nat} {y0 : Int32} {y1 : Int32} {b2 : Nat} {y3 : Int32} {b4 : Nat} {w : MW} (h0 : (mTg w b4 = 50 ∧ mTg w b2 = 50 ∨ mTg w b4 = 51 ∧ mTg w b2 = 51) ∧ mE ≤ b2 ∧ ¬ y3 < 0 ∧ ¬ y1 < 0 ∧ ¬ y0 < 0 ∧ y3.toNatClampNeg + y0.toNatClampNeg ≤ mLn w b4 ∧ y1.toNatClampNeg + y0.toNatClampNeg ≤ mLn w b2 ∧ 0 ≤ 4) : mX d 125 11 [mJ, mJ] [.int y0, .int y1, .ref b2, .int y3, .ref b4] w = some (.inl none, wC w b4 y3.toNatClampNeg b2 y1.toNatClampNeg y0.toNatClampNeg) := by
  refine Eq.trans (X_st f_125_11 rfl (if_pos h0)) ?_
  exact X_ret f_125_14 rfl rfl
