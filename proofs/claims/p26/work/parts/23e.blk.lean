/-! ===== BLOCKS: by program (wip/p26/blk.py) ===== -/
/-! BeeTurnpikeLaw$Sim <init> ()V -/
theorem f_126_0 : mFetch 126 0 = some (.aload_n 0, 1, []) := by decide +kernel
theorem f_126_1 : mFetch 126 1 = some (.invokespecial 1, 3, [1002, 1325]) := by decide +kernel
theorem f_126_4 : mFetch 126 4 = some (.aload_n 0, 1, []) := by decide +kernel
theorem f_126_5 : mFetch 126 5 = some (.iconst (-1), 1, []) := by decide +kernel
theorem f_126_6 : mFetch 126 6 = some (.putfield 7, 3, [10, 1, 0, 1329]) := by decide +kernel
theorem f_126_9 : mFetch 126 9 = some (.aload_n 0, 1, []) := by decide +kernel
theorem f_126_10 : mFetch 126 10 = some (.bipush 6, 2, []) := by decide +kernel
theorem f_126_12 : mFetch 126 12 = some (.newarray .int, 2, [50]) := by decide +kernel
theorem f_126_14 : mFetch 126 14 = some (.putfield 13, 3, [10, 7, 0, 1337]) := by decide +kernel
theorem f_126_17 : mFetch 126 17 = some (.aload_n 0, 1, []) := by decide +kernel
theorem f_126_18 : mFetch 126 18 = some (.iconst 0, 1, []) := by decide +kernel
theorem f_126_19 : mFetch 126 19 = some (.newarray .int, 2, [50]) := by decide +kernel
theorem f_126_21 : mFetch 126 21 = some (.putfield 17, 3, [10, 8, 0, 1338]) := by decide +kernel
theorem f_126_24 : mFetch 126 24 = some (.aload_n 0, 1, []) := by decide +kernel
theorem f_126_25 : mFetch 126 25 = some (.iconst 0, 1, []) := by decide +kernel
theorem f_126_26 : mFetch 126 26 = some (.anewarray 20, 3, [52, 1326]) := by decide +kernel
theorem f_126_29 : mFetch 126 29 = some (.putfield 21, 3, [10, 9, 0, 1340]) := by decide +kernel
theorem f_126_32 : mFetch 126 32 = some (.aload_n 0, 1, []) := by decide +kernel
theorem f_126_33 : mFetch 126 33 = some (.iconst 0, 1, []) := by decide +kernel
theorem f_126_34 : mFetch 126 34 = some (.anewarray 20, 3, [52, 1326]) := by decide +kernel
theorem f_126_37 : mFetch 126 37 = some (.putfield 25, 3, [10, 10, 0, 1342]) := by decide +kernel
theorem f_126_40 : mFetch 126 40 = some (.aload_n 0, 1, []) := by decide +kernel
theorem f_126_41 : mFetch 126 41 = some (.iconst 0, 1, []) := by decide +kernel
theorem f_126_42 : mFetch 126 42 = some (.anewarray 20, 3, [52, 1326]) := by decide +kernel
theorem f_126_45 : mFetch 126 45 = some (.putfield 28, 3, [10, 11, 0, 1344]) := by decide +kernel
theorem f_126_48 : mFetch 126 48 = some (.aload_n 0, 1, []) := by decide +kernel
theorem f_126_49 : mFetch 126 49 = some (.iconst 0, 1, []) := by decide +kernel
theorem f_126_50 : mFetch 126 50 = some (.anewarray 20, 3, [52, 1326]) := by decide +kernel
theorem f_126_53 : mFetch 126 53 = some (.putfield 31, 3, [10, 12, 0, 1346]) := by decide +kernel
theorem f_126_56 : mFetch 126 56 = some (.aload_n 0, 1, []) := by decide +kernel
theorem f_126_57 : mFetch 126 57 = some (.iconst 0, 1, []) := by decide +kernel
theorem f_126_58 : mFetch 126 58 = some (.anewarray 20, 3, [52, 1326]) := by decide +kernel
theorem f_126_61 : mFetch 126 61 = some (.putfield 34, 3, [10, 13, 0, 1348]) := by decide +kernel
theorem f_126_64 : mFetch 126 64 = some (.aload_n 0, 1, []) := by decide +kernel
theorem f_126_65 : mFetch 126 65 = some (.iconst 0, 1, []) := by decide +kernel
theorem f_126_66 : mFetch 126 66 = some (.anewarray 20, 3, [52, 1326]) := by decide +kernel
theorem f_126_69 : mFetch 126 69 = some (.putfield 37, 3, [10, 14, 0, 1350]) := by decide +kernel
theorem f_126_72 : mFetch 126 72 = some (.aload_n 0, 1, []) := by decide +kernel
theorem f_126_73 : mFetch 126 73 = some (.iconst 0, 1, []) := by decide +kernel
theorem f_126_74 : mFetch 126 74 = some (.anewarray 20, 3, [52, 1326]) := by decide +kernel
theorem f_126_77 : mFetch 126 77 = some (.putfield 40, 3, [10, 15, 0, 1352]) := by decide +kernel
theorem f_126_80 : mFetch 126 80 = some (.aload_n 0, 1, []) := by decide +kernel
theorem f_126_81 : mFetch 126 81 = some (.iconst 0, 1, []) := by decide +kernel
theorem f_126_82 : mFetch 126 82 = some (.anewarray 20, 3, [52, 1326]) := by decide +kernel
theorem f_126_85 : mFetch 126 85 = some (.putfield 43, 3, [10, 16, 0, 1354]) := by decide +kernel
theorem f_126_88 : mFetch 126 88 = some (.aload_n 0, 1, []) := by decide +kernel
theorem f_126_89 : mFetch 126 89 = some (.iconst 0, 1, []) := by decide +kernel
theorem f_126_90 : mFetch 126 90 = some (.anewarray 20, 3, [52, 1326]) := by decide +kernel
theorem f_126_93 : mFetch 126 93 = some (.putfield 46, 3, [10, 17, 0, 1356]) := by decide +kernel
theorem f_126_96 : mFetch 126 96 = some (.return_, 1, []) := by decide +kernel
theorem b_126_0 {d : Nat} {a0 : Nat} {w : MW} (h0 : mE ≤ a0) (h1 : mTg w a0 = 10) : mX d 126 0 [.ref a0] [] w = mX d 126 9 [.ref a0] [] (wI w a0 1 (-1 : Int32)) := by
  refine Eq.trans (X_st f_126_0 rfl rfl) ?_
  refine Eq.trans (X_st f_126_1 rfl (if_pos ⟨h0, Nat.le_of_ble_eq_true rfl⟩)) ?_
  refine Eq.trans (X_st f_126_4 rfl rfl) ?_
  refine Eq.trans (X_iconst f_126_5 kc_i_m1) ?_
  refine Eq.trans (X_putI f_126_6 h1 h0 rfl rfl) ?_
  exact mX_mask rfl
theorem e_126 {d : Nat} {a0 : Nat} {w : MW} : mK d 126 [.ref a0] w = mX d 126 0 [.ref a0] [] w := rfl
theorem b_126_9 {d : Nat} {a0 : Nat} {w : MW} : mX d 126 9 [.ref a0] [] w = mX d 126 14 [.ref a0] [.ref (mSz w), .ref a0] (wN w 50 6 6) := by
  refine Eq.trans (X_st f_126_9 rfl rfl) ?_
  refine Eq.trans (X_bipush f_126_10 kc_b_6) ?_
  refine Eq.trans (X_newa f_126_12 kn_6 kl_6 (Nat.le_of_ble_eq_true rfl)) ?_
  exact mX_mask rfl
theorem b_126_14 {d : Nat} {a0 : Nat} {b0 : Nat} {b1 : Nat} {w : MW} (h0 : mTg w b1 = 10) (h1 : mE ≤ b1) : mX d 126 14 [.ref a0] [.ref b0, .ref b1] w = mX d 126 17 [.ref a0] [] (wR w b1 7 (some b0)) := by
  refine Eq.trans (X_putR f_126_14 h0 h1 rfl) ?_
  exact mX_mask rfl
theorem b_126_17 {d : Nat} {a0 : Nat} {w : MW} : mX d 126 17 [.ref a0] [] w = mX d 126 21 [.ref a0] [.ref (mSz w), .ref a0] (wN w 50 0 0) := by
  refine Eq.trans (X_st f_126_17 rfl rfl) ?_
  refine Eq.trans (X_iconst f_126_18 kc_i_0) ?_
  refine Eq.trans (X_newa f_126_19 kn_0 kl_0 (Nat.le_of_ble_eq_true rfl)) ?_
  exact mX_mask rfl
theorem b_126_21 {d : Nat} {a0 : Nat} {b0 : Nat} {b1 : Nat} {w : MW} (h0 : mTg w b1 = 10) (h1 : mE ≤ b1) : mX d 126 21 [.ref a0] [.ref b0, .ref b1] w = mX d 126 24 [.ref a0] [] (wR w b1 8 (some b0)) := by
  refine Eq.trans (X_putR f_126_21 h0 h1 rfl) ?_
  exact mX_mask rfl
theorem b_126_24 {d : Nat} {a0 : Nat} {w : MW} : mX d 126 24 [.ref a0] [] w = mX d 126 29 [.ref a0] [.ref (mSz w), .ref a0] (wN w 52 0 0) := by
  refine Eq.trans (X_st f_126_24 rfl rfl) ?_
  refine Eq.trans (X_iconst f_126_25 kc_i_0) ?_
  refine Eq.trans (X_newq f_126_26 kn_0 kl_0 (Nat.le_of_ble_eq_true rfl)) ?_
  exact mX_mask rfl
theorem b_126_29 {d : Nat} {a0 : Nat} {b0 : Nat} {b1 : Nat} {w : MW} (h0 : mTg w b1 = 10) (h1 : mE ≤ b1) : mX d 126 29 [.ref a0] [.ref b0, .ref b1] w = mX d 126 32 [.ref a0] [] (wR w b1 9 (some b0)) := by
  refine Eq.trans (X_putR f_126_29 h0 h1 rfl) ?_
  exact mX_mask rfl
theorem b_126_32 {d : Nat} {a0 : Nat} {w : MW} : mX d 126 32 [.ref a0] [] w = mX d 126 37 [.ref a0] [.ref (mSz w), .ref a0] (wN w 52 0 0) := by
  refine Eq.trans (X_st f_126_32 rfl rfl) ?_
  refine Eq.trans (X_iconst f_126_33 kc_i_0) ?_
  refine Eq.trans (X_newq f_126_34 kn_0 kl_0 (Nat.le_of_ble_eq_true rfl)) ?_
  exact mX_mask rfl
theorem b_126_37 {d : Nat} {a0 : Nat} {b0 : Nat} {b1 : Nat} {w : MW} (h0 : mTg w b1 = 10) (h1 : mE ≤ b1) : mX d 126 37 [.ref a0] [.ref b0, .ref b1] w = mX d 126 40 [.ref a0] [] (wR w b1 10 (some b0)) := by
  refine Eq.trans (X_putR f_126_37 h0 h1 rfl) ?_
  exact mX_mask rfl
theorem b_126_40 {d : Nat} {a0 : Nat} {w : MW} : mX d 126 40 [.ref a0] [] w = mX d 126 45 [.ref a0] [.ref (mSz w), .ref a0] (wN w 52 0 0) := by
  refine Eq.trans (X_st f_126_40 rfl rfl) ?_
  refine Eq.trans (X_iconst f_126_41 kc_i_0) ?_
  refine Eq.trans (X_newq f_126_42 kn_0 kl_0 (Nat.le_of_ble_eq_true rfl)) ?_
  exact mX_mask rfl
theorem b_126_45 {d : Nat} {a0 : Nat} {b0 : Nat} {b1 : Nat} {w : MW} (h0 : mTg w b1 = 10) (h1 : mE ≤ b1) : mX d 126 45 [.ref a0] [.ref b0, .ref b1] w = mX d 126 48 [.ref a0] [] (wR w b1 11 (some b0)) := by
  refine Eq.trans (X_putR f_126_45 h0 h1 rfl) ?_
  exact mX_mask rfl
theorem b_126_48 {d : Nat} {a0 : Nat} {w : MW} : mX d 126 48 [.ref a0] [] w = mX d 126 53 [.ref a0] [.ref (mSz w), .ref a0] (wN w 52 0 0) := by
  refine Eq.trans (X_st f_126_48 rfl rfl) ?_
  refine Eq.trans (X_iconst f_126_49 kc_i_0) ?_
  refine Eq.trans (X_newq f_126_50 kn_0 kl_0 (Nat.le_of_ble_eq_true rfl)) ?_
  exact mX_mask rfl
theorem b_126_53 {d : Nat} {a0 : Nat} {b0 : Nat} {b1 : Nat} {w : MW} (h0 : mTg w b1 = 10) (h1 : mE ≤ b1) : mX d 126 53 [.ref a0] [.ref b0, .ref b1] w = mX d 126 56 [.ref a0] [] (wR w b1 12 (some b0)) := by
  refine Eq.trans (X_putR f_126_53 h0 h1 rfl) ?_
  exact mX_mask rfl
theorem b_126_56 {d : Nat} {a0 : Nat} {w : MW} : mX d 126 56 [.ref a0] [] w = mX d 126 61 [.ref a0] [.ref (mSz w), .ref a0] (wN w 52 0 0) := by
  refine Eq.trans (X_st f_126_56 rfl rfl) ?_
  refine Eq.trans (X_iconst f_126_57 kc_i_0) ?_
  refine Eq.trans (X_newq f_126_58 kn_0 kl_0 (Nat.le_of_ble_eq_true rfl)) ?_
  exact mX_mask rfl
theorem b_126_61 {d : Nat} {a0 : Nat} {b0 : Nat} {b1 : Nat} {w : MW} (h0 : mTg w b1 = 10) (h1 : mE ≤ b1) : mX d 126 61 [.ref a0] [.ref b0, .ref b1] w = mX d 126 64 [.ref a0] [] (wR w b1 13 (some b0)) := by
  refine Eq.trans (X_putR f_126_61 h0 h1 rfl) ?_
  exact mX_mask rfl
theorem b_126_64 {d : Nat} {a0 : Nat} {w : MW} : mX d 126 64 [.ref a0] [] w = mX d 126 69 [.ref a0] [.ref (mSz w), .ref a0] (wN w 52 0 0) := by
  refine Eq.trans (X_st f_126_64 rfl rfl) ?_
  refine Eq.trans (X_iconst f_126_65 kc_i_0) ?_
  refine Eq.trans (X_newq f_126_66 kn_0 kl_0 (Nat.le_of_ble_eq_true rfl)) ?_
  exact mX_mask rfl
theorem b_126_69 {d : Nat} {a0 : Nat} {b0 : Nat} {b1 : Nat} {w : MW} (h0 : mTg w b1 = 10) (h1 : mE ≤ b1) : mX d 126 69 [.ref a0] [.ref b0, .ref b1] w = mX d 126 72 [.ref a0] [] (wR w b1 14 (some b0)) := by
  refine Eq.trans (X_putR f_126_69 h0 h1 rfl) ?_
  exact mX_mask rfl
theorem b_126_72 {d : Nat} {a0 : Nat} {w : MW} : mX d 126 72 [.ref a0] [] w = mX d 126 77 [.ref a0] [.ref (mSz w), .ref a0] (wN w 52 0 0) := by
  refine Eq.trans (X_st f_126_72 rfl rfl) ?_
  refine Eq.trans (X_iconst f_126_73 kc_i_0) ?_
  refine Eq.trans (X_newq f_126_74 kn_0 kl_0 (Nat.le_of_ble_eq_true rfl)) ?_
  exact mX_mask rfl
theorem b_126_77 {d : Nat} {a0 : Nat} {b0 : Nat} {b1 : Nat} {w : MW} (h0 : mTg w b1 = 10) (h1 : mE ≤ b1) : mX d 126 77 [.ref a0] [.ref b0, .ref b1] w = mX d 126 80 [.ref a0] [] (wR w b1 15 (some b0)) := by
  refine Eq.trans (X_putR f_126_77 h0 h1 rfl) ?_
  exact mX_mask rfl
theorem b_126_80 {d : Nat} {a0 : Nat} {w : MW} : mX d 126 80 [.ref a0] [] w = mX d 126 85 [.ref a0] [.ref (mSz w), .ref a0] (wN w 52 0 0) := by
  refine Eq.trans (X_st f_126_80 rfl rfl) ?_
  refine Eq.trans (X_iconst f_126_81 kc_i_0) ?_
  refine Eq.trans (X_newq f_126_82 kn_0 kl_0 (Nat.le_of_ble_eq_true rfl)) ?_
  exact mX_mask rfl
theorem b_126_85 {d : Nat} {a0 : Nat} {b0 : Nat} {b1 : Nat} {w : MW} (h0 : mTg w b1 = 10) (h1 : mE ≤ b1) : mX d 126 85 [.ref a0] [.ref b0, .ref b1] w = mX d 126 88 [.ref a0] [] (wR w b1 16 (some b0)) := by
  refine Eq.trans (X_putR f_126_85 h0 h1 rfl) ?_
  exact mX_mask rfl
theorem b_126_88 {d : Nat} {a0 : Nat} {w : MW} : mX d 126 88 [.ref a0] [] w = mX d 126 93 [mJ] [.ref (mSz w), .ref a0] (wN w 52 0 0) := by
  refine Eq.trans (X_st f_126_88 rfl rfl) ?_
  refine Eq.trans (X_iconst f_126_89 kc_i_0) ?_
  refine Eq.trans (X_newq f_126_90 kn_0 kl_0 (Nat.le_of_ble_eq_true rfl)) ?_
  exact mX_mask rfl
theorem b_126_93 {d : Nat} {b0 : Nat} {b1 : Nat} {w : MW} (h0 : mTg w b1 = 10) (h1 : mE ≤ b1) : mX d 126 93 [mJ] [.ref b0, .ref b1] w = mX d 126 96 [mJ] [] (wR w b1 17 (some b0)) := by
  refine Eq.trans (X_putR f_126_93 h0 h1 rfl) ?_
  exact mX_mask rfl
theorem b_126_96 {d : Nat} {w : MW} : mX d 126 96 [mJ] [] w = some (.inl none, w) := by
  exact X_ret f_126_96 rfl rfl
/-! BeeTurnpikeLaw$Sim letters (I)I -/
theorem f_127_0 : mFetch 127 0 = some (.iconst 0, 1, []) := by decide +kernel
theorem f_127_1 : mFetch 127 1 = some (.istore_n 2, 1, []) := by decide +kernel
theorem f_127_2 : mFetch 127 2 = some (.aload_n 0, 1, []) := by decide +kernel
theorem f_127_3 : mFetch 127 3 = some (.getfield 25, 3, [10, 10, 0, 1342]) := by decide +kernel
theorem f_127_6 : mFetch 127 6 = some (.iload_n 1, 1, []) := by decide +kernel
theorem f_127_7 : mFetch 127 7 = some (.aaload, 1, []) := by decide +kernel
theorem f_127_8 : mFetch 127 8 = some (.astore_n 3, 1, []) := by decide +kernel
theorem f_127_9 : mFetch 127 9 = some (.aload_n 3, 1, []) := by decide +kernel
theorem f_127_10 : mFetch 127 10 = some (.arraylength, 1, []) := by decide +kernel
theorem f_127_11 : mFetch 127 11 = some (.istore 4, 2, []) := by decide +kernel
theorem f_127_13 : mFetch 127 13 = some (.iconst 0, 1, []) := by decide +kernel
theorem f_127_14 : mFetch 127 14 = some (.istore 5, 2, []) := by decide +kernel
theorem f_127_16 : mFetch 127 16 = some (.iload 5, 2, []) := by decide +kernel
theorem f_127_18 : mFetch 127 18 = some (.iload 4, 2, []) := by decide +kernel
theorem f_127_20 : mFetch 127 20 = some (.if_icmp .ge 27, 3, [47]) := by decide +kernel
theorem f_127_23 : mFetch 127 23 = some (.aload_n 3, 1, []) := by decide +kernel
theorem f_127_24 : mFetch 127 24 = some (.iload 5, 2, []) := by decide +kernel
theorem f_127_26 : mFetch 127 26 = some (.iaload, 1, []) := by decide +kernel
theorem f_127_27 : mFetch 127 27 = some (.istore 6, 2, []) := by decide +kernel
theorem f_127_29 : mFetch 127 29 = some (.iload_n 2, 1, []) := by decide +kernel
theorem f_127_30 : mFetch 127 30 = some (.aload_n 0, 1, []) := by decide +kernel
theorem f_127_31 : mFetch 127 31 = some (.getfield 21, 3, [10, 9, 0, 1340]) := by decide +kernel
theorem f_127_34 : mFetch 127 34 = some (.iload 6, 2, []) := by decide +kernel
theorem f_127_36 : mFetch 127 36 = some (.aaload, 1, []) := by decide +kernel
theorem f_127_37 : mFetch 127 37 = some (.iconst 1, 1, []) := by decide +kernel
theorem f_127_38 : mFetch 127 38 = some (.iaload, 1, []) := by decide +kernel
theorem f_127_39 : mFetch 127 39 = some (.iadd, 1, []) := by decide +kernel
theorem f_127_40 : mFetch 127 40 = some (.istore_n 2, 1, []) := by decide +kernel
theorem f_127_41 : mFetch 127 41 = some (.iinc 5 1, 3, []) := by decide +kernel
theorem f_127_44 : mFetch 127 44 = some (.goto (-28), 3, [16]) := by decide +kernel
theorem f_127_47 : mFetch 127 47 = some (.iload_n 2, 1, []) := by decide +kernel
theorem f_127_48 : mFetch 127 48 = some (.ireturn, 1, [0]) := by decide +kernel
theorem b_127_0 {d : Nat} {a0 : Nat} {x1 : Nat} {w : MW} (h0 : mTg w a0 = 10) (h1 : mR w a0 10 = some (gR w a0 10)) (h2 : 52 ≤ mTg w (gR w a0 10) ∧ mTg w (gR w a0 10) < 55) (h3 : x1 < 2147483648) (h4 : x1 < mLn w (gR w a0 10)) (h5 : mR w (gR w a0 10) x1 = some (gR w (gR w a0 10) x1)) (h6 : 50 ≤ mTg w (gR w (gR w a0 10) x1) ∧ mTg w (gR w (gR w a0 10) x1) < 55) : mX d 127 0 [.ref a0, .int (nI x1), mJ, mJ, mJ, mJ, mJ] [] w = mX d 127 16 [.ref a0, mJ, .int (nI 0), .ref (gR w (gR w a0 10) x1), .int (nI (mLn w (gR w (gR w a0 10) x1))), .int (nI 0), mJ] [] w := by
  refine Eq.trans (X_iconst f_127_0 kc_i_0) ?_
  refine Eq.trans (X_istore_n (L' := [.ref a0, .int (nI x1), .int (nI 0), mJ, mJ, mJ, mJ]) f_127_1 (Nat.le_of_ble_eq_true rfl) rfl) ?_
  refine Eq.trans (X_st f_127_2 rfl rfl) ?_
  refine Eq.trans (X_getR f_127_3 h0 rfl h1) ?_
  refine Eq.trans (X_st f_127_6 rfl rfl) ?_
  refine Eq.trans (X_aald f_127_7 h2 (jnn h3) (jcl h3) h4 h5) ?_
  refine Eq.trans (X_astore_n (L' := [.ref a0, .int (nI x1), .int (nI 0), .ref (gR w (gR w a0 10) x1), mJ, mJ, mJ]) f_127_8 (Nat.le_of_ble_eq_true rfl) rfl) ?_
  refine Eq.trans (X_st f_127_9 rfl rfl) ?_
  refine Eq.trans (X_st f_127_10 rfl (if_pos h6)) ?_
  refine Eq.trans (X_istore (L' := [.ref a0, .int (nI x1), .int (nI 0), .ref (gR w (gR w a0 10) x1), .int (nI (mLn w (gR w (gR w a0 10) x1))), mJ, mJ]) f_127_11 (Nat.le_of_ble_eq_true rfl) rfl) ?_
  refine Eq.trans (X_iconst f_127_13 kc_i_0) ?_
  refine Eq.trans (X_istore (L' := [.ref a0, .int (nI x1), .int (nI 0), .ref (gR w (gR w a0 10) x1), .int (nI (mLn w (gR w (gR w a0 10) x1))), .int (nI 0), mJ]) f_127_14 (Nat.le_of_ble_eq_true rfl) rfl) ?_
  exact mX_mask rfl
theorem e_127 {d : Nat} {a0 : Nat} {x1 : Int32} {w : MW} : mK d 127 [.ref a0, .int x1] w = mX d 127 0 [.ref a0, .int x1, mJ, mJ, mJ, mJ, mJ] [] w := rfl
theorem b_127_16 {d : Nat} {a0 : Nat} {x2 : Int32} {a3 : Nat} {x4 : Int32} {x5 : Int32} {w : MW} : mX d 127 16 [.ref a0, mJ, .int x2, .ref a3, .int x4, .int x5, mJ] [] w = (if x4 ≤ x5 then mX d 127 47 [mJ, mJ, .int x2, mJ, mJ, mJ, mJ] [] w else mX d 127 23 [.ref a0, mJ, .int x2, .ref a3, .int x4, .int x5, mJ] [] w) := by
  refine Eq.trans (X_st f_127_16 rfl rfl) ?_
  refine Eq.trans (X_st f_127_18 rfl rfl) ?_
  refine Eq.trans (X_br f_127_20 rfl rfl) ?_
  exact mIte_eq (mX_mask rfl) (mX_mask rfl)
theorem b_127_23 {d : Nat} {a0 : Nat} {x2 : Int32} {a3 : Nat} {x4 : Int32} {x5 : Nat} {z0 : Nat} {w : MW} (h0 : mTg w a3 = 50) (h1 : x5 < 2147483648) (h2 : x5 < mLn w a3) (h3 : mTg w a0 = 10) (h4 : mR w a0 9 = some (gR w a0 9)) (h5 : 52 ≤ mTg w (gR w a0 9) ∧ mTg w (gR w a0 9) < 55) (h6 : (mI w a3 x5) = nI z0) (h7 : z0 < 2147483648) (h8 : z0 < mLn w (gR w a0 9)) (h9 : mR w (gR w a0 9) z0 = some (gR w (gR w a0 9) z0)) (h10 : mTg w (gR w (gR w a0 9) z0) = 50) (h11 : 1 < mLn w (gR w (gR w a0 9) z0)) : mX d 127 23 [.ref a0, mJ, .int x2, .ref a3, .int x4, .int (nI x5), mJ] [] w = mX d 127 16 [.ref a0, mJ, .int (x2 + (mI w (gR w (gR w a0 9) z0) 1)), .ref a3, .int x4, .int ((nI x5) + (nI 1)), mJ] [] w := by
  refine Eq.trans (X_st f_127_23 rfl rfl) ?_
  refine Eq.trans (X_st f_127_24 rfl rfl) ?_
  refine Eq.trans (X_iald f_127_26 h0 (jnn h1) (jcl h1) h2) ?_
  refine Eq.trans (X_istore (L' := [.ref a0, mJ, .int x2, .ref a3, .int x4, .int (nI x5), .int (mI w a3 x5)]) f_127_27 (Nat.le_of_ble_eq_true rfl) rfl) ?_
  refine Eq.trans (X_st f_127_29 rfl rfl) ?_
  refine Eq.trans (X_st f_127_30 rfl rfl) ?_
  refine Eq.trans (X_getR f_127_31 h3 rfl h4) ?_
  refine Eq.trans (X_st f_127_34 rfl rfl) ?_
  refine Eq.trans (X_aald f_127_36 h5 (jnnE h6 h7) (jclE h6 h7) h8 h9) ?_
  refine Eq.trans (X_iconst f_127_37 kc_i_1) ?_
  refine Eq.trans (X_iald f_127_38 h10 kn_1 kl_1 h11) ?_
  refine Eq.trans (X_st f_127_39 rfl rfl) ?_
  refine Eq.trans (X_istore_n (L' := [.ref a0, mJ, .int (x2 + (mI w (gR w (gR w a0 9) z0) 1)), .ref a3, .int x4, .int (nI x5), .int (mI w a3 x5)]) f_127_40 (Nat.le_of_ble_eq_true rfl) rfl) ?_
  refine Eq.trans (X_iinc f_127_41 kc_i_1 rfl rfl) ?_
  refine Eq.trans (X_st f_127_44 rfl rfl) ?_
  exact mX_mask rfl
theorem b_127_47 {d : Nat} {x2 : Int32} {w : MW} : mX d 127 47 [mJ, mJ, .int x2, mJ, mJ, mJ, mJ] [] w = some (.inl (some (.int x2)), w) := by
  refine Eq.trans (X_st f_127_47 rfl rfl) ?_
  exact X_ireturn f_127_48 rfl
/-! BeeTurnpikeLaw$Sim hard (I)I -/
theorem f_128_0 : mFetch 128 0 = some (.aload_n 0, 1, []) := by decide +kernel
theorem f_128_1 : mFetch 128 1 = some (.iload_n 1, 1, []) := by decide +kernel
theorem f_128_2 : mFetch 128 2 = some (.invokevirtual 79, 3, [127, 2, 2, 10, 851, 852, 853]) := by decide +kernel
theorem f_128_5 : mFetch 128 5 = some (.iconst 2, 1, []) := by decide +kernel
theorem f_128_6 : mFetch 128 6 = some (.ishr, 1, []) := by decide +kernel
theorem f_128_7 : mFetch 128 7 = some (.istore_n 2, 1, []) := by decide +kernel
theorem f_128_8 : mFetch 128 8 = some (.aload_n 0, 1, []) := by decide +kernel
theorem f_128_9 : mFetch 128 9 = some (.getfield 25, 3, [10, 10, 0, 1342]) := by decide +kernel
theorem f_128_12 : mFetch 128 12 = some (.iload_n 1, 1, []) := by decide +kernel
theorem f_128_13 : mFetch 128 13 = some (.aaload, 1, []) := by decide +kernel
theorem f_128_14 : mFetch 128 14 = some (.astore_n 3, 1, []) := by decide +kernel
theorem f_128_15 : mFetch 128 15 = some (.aload_n 3, 1, []) := by decide +kernel
theorem f_128_16 : mFetch 128 16 = some (.arraylength, 1, []) := by decide +kernel
theorem f_128_17 : mFetch 128 17 = some (.istore 4, 2, []) := by decide +kernel
theorem f_128_19 : mFetch 128 19 = some (.iconst 0, 1, []) := by decide +kernel
theorem f_128_20 : mFetch 128 20 = some (.istore 5, 2, []) := by decide +kernel
theorem f_128_22 : mFetch 128 22 = some (.iload 5, 2, []) := by decide +kernel
theorem f_128_24 : mFetch 128 24 = some (.iload 4, 2, []) := by decide +kernel
theorem f_128_26 : mFetch 128 26 = some (.if_icmp .ge 27, 3, [53]) := by decide +kernel
theorem f_128_29 : mFetch 128 29 = some (.aload_n 3, 1, []) := by decide +kernel
theorem f_128_30 : mFetch 128 30 = some (.iload 5, 2, []) := by decide +kernel
theorem f_128_32 : mFetch 128 32 = some (.iaload, 1, []) := by decide +kernel
theorem f_128_33 : mFetch 128 33 = some (.istore 6, 2, []) := by decide +kernel
theorem f_128_35 : mFetch 128 35 = some (.iload_n 2, 1, []) := by decide +kernel
theorem f_128_36 : mFetch 128 36 = some (.aload_n 0, 1, []) := by decide +kernel
theorem f_128_37 : mFetch 128 37 = some (.getfield 21, 3, [10, 9, 0, 1340]) := by decide +kernel
theorem f_128_40 : mFetch 128 40 = some (.iload 6, 2, []) := by decide +kernel
theorem f_128_42 : mFetch 128 42 = some (.aaload, 1, []) := by decide +kernel
theorem f_128_43 : mFetch 128 43 = some (.iconst 2, 1, []) := by decide +kernel
theorem f_128_44 : mFetch 128 44 = some (.iaload, 1, []) := by decide +kernel
theorem f_128_45 : mFetch 128 45 = some (.iadd, 1, []) := by decide +kernel
theorem f_128_46 : mFetch 128 46 = some (.istore_n 2, 1, []) := by decide +kernel
theorem f_128_47 : mFetch 128 47 = some (.iinc 5 1, 3, []) := by decide +kernel
theorem f_128_50 : mFetch 128 50 = some (.goto (-28), 3, [22]) := by decide +kernel
theorem f_128_53 : mFetch 128 53 = some (.iload_n 2, 1, []) := by decide +kernel
theorem f_128_54 : mFetch 128 54 = some (.ireturn, 1, [0]) := by decide +kernel
theorem b_128_0 {d : Nat} {a0 : Nat} {x1 : Int32} {w : MW} (h0 : mTg w a0 = 10) : mX (d + 1) 128 0 [.ref a0, .int x1, mJ, mJ, mJ, mJ, mJ] [] w = mThen (mK d 127 [.ref a0, .int x1] w) (fun v w9 => mX (d + 1) 128 5 [.ref a0, .int x1, mJ, mJ, mJ, mJ, mJ] (v.toList ++ []) w9) := by
  refine Eq.trans (X_st f_128_0 rfl rfl) ?_
  refine Eq.trans (X_st f_128_1 rfl rfl) ?_
  refine Eq.trans (X_call f_128_2 (by decide) rfl rfl rfl rfl rfl rfl (Nat.le_of_ble_eq_true rfl) (Nat.le_of_ble_eq_true rfl) (decide_eq_true h0) (Nat.le_of_ble_eq_true rfl)) ?_
  exact mThen_eq fun v w9 => mX_mask rfl
theorem e_128 {d : Nat} {a0 : Nat} {x1 : Int32} {w : MW} : mK d 128 [.ref a0, .int x1] w = mX d 128 0 [.ref a0, .int x1, mJ, mJ, mJ, mJ, mJ] [] w := rfl
theorem b_128_5 {d : Nat} {a0 : Nat} {x1 : Nat} {y0 : Int32} {w : MW} (h0 : mTg w a0 = 10) (h1 : mR w a0 10 = some (gR w a0 10)) (h2 : 52 ≤ mTg w (gR w a0 10) ∧ mTg w (gR w a0 10) < 55) (h3 : x1 < 2147483648) (h4 : x1 < mLn w (gR w a0 10)) (h5 : mR w (gR w a0 10) x1 = some (gR w (gR w a0 10) x1)) (h6 : 50 ≤ mTg w (gR w (gR w a0 10) x1) ∧ mTg w (gR w (gR w a0 10) x1) < 55) : mX d 128 5 [.ref a0, .int (nI x1), mJ, mJ, mJ, mJ, mJ] [.int y0] w = mX d 128 22 [.ref a0, mJ, .int (y0 >>> ((nI 2) &&& 31)), .ref (gR w (gR w a0 10) x1), .int (nI (mLn w (gR w (gR w a0 10) x1))), .int (nI 0), mJ] [] w := by
  refine Eq.trans (X_iconst f_128_5 kc_i_2) ?_
  refine Eq.trans (X_st f_128_6 rfl rfl) ?_
  refine Eq.trans (X_istore_n (L' := [.ref a0, .int (nI x1), .int (y0 >>> ((nI 2) &&& 31)), mJ, mJ, mJ, mJ]) f_128_7 (Nat.le_of_ble_eq_true rfl) rfl) ?_
  refine Eq.trans (X_st f_128_8 rfl rfl) ?_
  refine Eq.trans (X_getR f_128_9 h0 rfl h1) ?_
  refine Eq.trans (X_st f_128_12 rfl rfl) ?_
  refine Eq.trans (X_aald f_128_13 h2 (jnn h3) (jcl h3) h4 h5) ?_
  refine Eq.trans (X_astore_n (L' := [.ref a0, .int (nI x1), .int (y0 >>> ((nI 2) &&& 31)), .ref (gR w (gR w a0 10) x1), mJ, mJ, mJ]) f_128_14 (Nat.le_of_ble_eq_true rfl) rfl) ?_
  refine Eq.trans (X_st f_128_15 rfl rfl) ?_
  refine Eq.trans (X_st f_128_16 rfl (if_pos h6)) ?_
  refine Eq.trans (X_istore (L' := [.ref a0, .int (nI x1), .int (y0 >>> ((nI 2) &&& 31)), .ref (gR w (gR w a0 10) x1), .int (nI (mLn w (gR w (gR w a0 10) x1))), mJ, mJ]) f_128_17 (Nat.le_of_ble_eq_true rfl) rfl) ?_
  refine Eq.trans (X_iconst f_128_19 kc_i_0) ?_
  refine Eq.trans (X_istore (L' := [.ref a0, .int (nI x1), .int (y0 >>> ((nI 2) &&& 31)), .ref (gR w (gR w a0 10) x1), .int (nI (mLn w (gR w (gR w a0 10) x1))), .int (nI 0), mJ]) f_128_20 (Nat.le_of_ble_eq_true rfl) rfl) ?_
  exact mX_mask rfl
theorem b_128_22 {d : Nat} {a0 : Nat} {x2 : Int32} {a3 : Nat} {x4 : Int32} {x5 : Int32} {w : MW} : mX d 128 22 [.ref a0, mJ, .int x2, .ref a3, .int x4, .int x5, mJ] [] w = (if x4 ≤ x5 then mX d 128 53 [mJ, mJ, .int x2, mJ, mJ, mJ, mJ] [] w else mX d 128 29 [.ref a0, mJ, .int x2, .ref a3, .int x4, .int x5, mJ] [] w) := by
  refine Eq.trans (X_st f_128_22 rfl rfl) ?_
  refine Eq.trans (X_st f_128_24 rfl rfl) ?_
  refine Eq.trans (X_br f_128_26 rfl rfl) ?_
  exact mIte_eq (mX_mask rfl) (mX_mask rfl)
theorem b_128_29 {d : Nat} {a0 : Nat} {x2 : Int32} {a3 : Nat} {x4 : Int32} {x5 : Nat} {z0 : Nat} {w : MW} (h0 : mTg w a3 = 50) (h1 : x5 < 2147483648) (h2 : x5 < mLn w a3) (h3 : mTg w a0 = 10) (h4 : mR w a0 9 = some (gR w a0 9)) (h5 : 52 ≤ mTg w (gR w a0 9) ∧ mTg w (gR w a0 9) < 55) (h6 : (mI w a3 x5) = nI z0) (h7 : z0 < 2147483648) (h8 : z0 < mLn w (gR w a0 9)) (h9 : mR w (gR w a0 9) z0 = some (gR w (gR w a0 9) z0)) (h10 : mTg w (gR w (gR w a0 9) z0) = 50) (h11 : 2 < mLn w (gR w (gR w a0 9) z0)) : mX d 128 29 [.ref a0, mJ, .int x2, .ref a3, .int x4, .int (nI x5), mJ] [] w = mX d 128 22 [.ref a0, mJ, .int (x2 + (mI w (gR w (gR w a0 9) z0) 2)), .ref a3, .int x4, .int ((nI x5) + (nI 1)), mJ] [] w := by
  refine Eq.trans (X_st f_128_29 rfl rfl) ?_
  refine Eq.trans (X_st f_128_30 rfl rfl) ?_
  refine Eq.trans (X_iald f_128_32 h0 (jnn h1) (jcl h1) h2) ?_
  refine Eq.trans (X_istore (L' := [.ref a0, mJ, .int x2, .ref a3, .int x4, .int (nI x5), .int (mI w a3 x5)]) f_128_33 (Nat.le_of_ble_eq_true rfl) rfl) ?_
  refine Eq.trans (X_st f_128_35 rfl rfl) ?_
  refine Eq.trans (X_st f_128_36 rfl rfl) ?_
  refine Eq.trans (X_getR f_128_37 h3 rfl h4) ?_
  refine Eq.trans (X_st f_128_40 rfl rfl) ?_
  refine Eq.trans (X_aald f_128_42 h5 (jnnE h6 h7) (jclE h6 h7) h8 h9) ?_
  refine Eq.trans (X_iconst f_128_43 kc_i_2) ?_
  refine Eq.trans (X_iald f_128_44 h10 kn_2 kl_2 h11) ?_
  refine Eq.trans (X_st f_128_45 rfl rfl) ?_
  refine Eq.trans (X_istore_n (L' := [.ref a0, mJ, .int (x2 + (mI w (gR w (gR w a0 9) z0) 2)), .ref a3, .int x4, .int (nI x5), .int (mI w a3 x5)]) f_128_46 (Nat.le_of_ble_eq_true rfl) rfl) ?_
  refine Eq.trans (X_iinc f_128_47 kc_i_1 rfl rfl) ?_
  refine Eq.trans (X_st f_128_50 rfl rfl) ?_
  exact mX_mask rfl
theorem b_128_53 {d : Nat} {x2 : Int32} {w : MW} : mX d 128 53 [mJ, mJ, .int x2, mJ, mJ, mJ, mJ] [] w = some (.inl (some (.int x2)), w) := by
  refine Eq.trans (X_st f_128_53 rfl rfl) ?_
  exact X_ireturn f_128_54 rfl
/-! BeeTurnpikeLaw$Sim word ()I -/
theorem f_129_0 : mFetch 129 0 = some (.aload_n 0, 1, []) := by decide +kernel
theorem f_129_1 : mFetch 129 1 = some (.getfield 7, 3, [10, 1, 0, 1329]) := by decide +kernel
theorem f_129_4 : mFetch 129 4 = some (.ifCond .ge 7, 3, [11]) := by decide +kernel
theorem f_129_7 : mFetch 129 7 = some (.iconst (-1), 1, []) := by decide +kernel
theorem f_129_8 : mFetch 129 8 = some (.goto 28, 3, [36]) := by decide +kernel
theorem f_129_11 : mFetch 129 11 = some (.aload_n 0, 1, []) := by decide +kernel
theorem f_129_12 : mFetch 129 12 = some (.getfield 43, 3, [10, 16, 0, 1354]) := by decide +kernel
theorem f_129_15 : mFetch 129 15 = some (.aload_n 0, 1, []) := by decide +kernel
theorem f_129_16 : mFetch 129 16 = some (.getfield 7, 3, [10, 1, 0, 1329]) := by decide +kernel
theorem f_129_19 : mFetch 129 19 = some (.aaload, 1, []) := by decide +kernel
theorem f_129_20 : mFetch 129 20 = some (.aload_n 0, 1, []) := by decide +kernel
theorem f_129_21 : mFetch 129 21 = some (.getfield 62, 3, [10, 3, 0, 1332]) := by decide +kernel
theorem f_129_24 : mFetch 129 24 = some (.aload_n 0, 1, []) := by decide +kernel
theorem f_129_25 : mFetch 129 25 = some (.getfield 43, 3, [10, 16, 0, 1354]) := by decide +kernel
theorem f_129_28 : mFetch 129 28 = some (.aload_n 0, 1, []) := by decide +kernel
theorem f_129_29 : mFetch 129 29 = some (.getfield 7, 3, [10, 1, 0, 1329]) := by decide +kernel
theorem f_129_32 : mFetch 129 32 = some (.aaload, 1, []) := by decide +kernel
theorem f_129_33 : mFetch 129 33 = some (.arraylength, 1, []) := by decide +kernel
theorem f_129_34 : mFetch 129 34 = some (.irem, 1, []) := by decide +kernel
theorem f_129_35 : mFetch 129 35 = some (.iaload, 1, []) := by decide +kernel
theorem f_129_36 : mFetch 129 36 = some (.ireturn, 1, [0]) := by decide +kernel
theorem b_129_0 {d : Nat} {a0 : Nat} {w : MW} (h0 : mTg w a0 = 10) : mX d 129 0 [.ref a0] [] w = (if nI 0 ≤ (mI w a0 1) then mX d 129 11 [.ref a0] [] w else mX d 129 7 [mJ] [] w) := by
  refine Eq.trans (X_st f_129_0 rfl rfl) ?_
  refine Eq.trans (X_getI f_129_1 h0 rfl) ?_
  refine Eq.trans (X_br f_129_4 rfl rfl) ?_
  exact mIte_eq (mX_mask rfl) (mX_mask rfl)
theorem e_129 {d : Nat} {a0 : Nat} {w : MW} : mK d 129 [.ref a0] w = mX d 129 0 [.ref a0] [] w := rfl
theorem b_129_7 {d : Nat} {w : MW} : mX d 129 7 [mJ] [] w = mX d 129 36 [mJ] [.int (-1 : Int32)] w := by
  refine Eq.trans (X_iconst f_129_7 kc_i_m1) ?_
  refine Eq.trans (X_st f_129_8 rfl rfl) ?_
  exact mX_mask rfl
theorem b_129_11 {d : Nat} {a0 : Nat} {z0 : Nat} {z1 : Nat} {w : MW} (h0 : mTg w a0 = 10) (h1 : mR w a0 16 = some (gR w a0 16)) (h2 : 52 ≤ mTg w (gR w a0 16) ∧ mTg w (gR w a0 16) < 55) (h3 : (mI w a0 1) = nI z0) (h4 : z0 < 2147483648) (h5 : z0 < mLn w (gR w a0 16)) (h6 : mR w (gR w a0 16) z0 = some (gR w (gR w a0 16) z0)) (h7 : 50 ≤ mTg w (gR w (gR w a0 16) z0) ∧ mTg w (gR w (gR w a0 16) z0) < 55) (h8 : ¬ (nI (mLn w (gR w (gR w a0 16) z0))) = nI 0) (h9 : mTg w (gR w (gR w a0 16) z0) = 50) (h10 : ((mI w a0 3) - (mI w a0 3) / (nI (mLn w (gR w (gR w a0 16) z0))) * (nI (mLn w (gR w (gR w a0 16) z0)))) = nI z1) (h11 : z1 < 2147483648) (h12 : z1 < mLn w (gR w (gR w a0 16) z0)) : mX d 129 11 [.ref a0] [] w = mX d 129 36 [mJ] [.int (mI w (gR w (gR w a0 16) z0) z1)] w := by
  refine Eq.trans (X_st f_129_11 rfl rfl) ?_
  refine Eq.trans (X_getR f_129_12 h0 rfl h1) ?_
  refine Eq.trans (X_st f_129_15 rfl rfl) ?_
  refine Eq.trans (X_getI f_129_16 h0 rfl) ?_
  refine Eq.trans (X_aald f_129_19 h2 (jnnE h3 h4) (jclE h3 h4) h5 h6) ?_
  refine Eq.trans (X_st f_129_20 rfl rfl) ?_
  refine Eq.trans (X_getI f_129_21 h0 rfl) ?_
  refine Eq.trans (X_st f_129_24 rfl rfl) ?_
  refine Eq.trans (X_getR f_129_25 h0 rfl h1) ?_
  refine Eq.trans (X_st f_129_28 rfl rfl) ?_
  refine Eq.trans (X_getI f_129_29 h0 rfl) ?_
  refine Eq.trans (X_aald f_129_32 h2 (jnnE h3 h4) (jclE h3 h4) h5 h6) ?_
  refine Eq.trans (X_st f_129_33 rfl (if_pos h7)) ?_
  refine Eq.trans (X_irem f_129_34 h8) ?_
  refine Eq.trans (X_iald f_129_35 h9 (jnnE h10 h11) (jclE h10 h11) h12) ?_
  exact mX_mask rfl
theorem b_129_36 {d : Nat} {y0 : Int32} {w : MW} : mX d 129 36 [mJ] [.int y0] w = some (.inl (some (.int y0)), w) := by
  exact X_ireturn f_129_36 rfl
/-! BeeTurnpikeLaw$Sim strong (II)I -/
theorem f_130_0 : mFetch 130 0 = some (.sipush 999, 3, []) := by decide +kernel
theorem f_130_3 : mFetch 130 3 = some (.istore_n 3, 1, []) := by decide +kernel
theorem f_130_4 : mFetch 130 4 = some (.aload_n 0, 1, []) := by decide +kernel
theorem f_130_5 : mFetch 130 5 = some (.getfield 25, 3, [10, 10, 0, 1342]) := by decide +kernel
theorem f_130_8 : mFetch 130 8 = some (.iload_n 2, 1, []) := by decide +kernel
theorem f_130_9 : mFetch 130 9 = some (.aaload, 1, []) := by decide +kernel
theorem f_130_10 : mFetch 130 10 = some (.astore 4, 2, []) := by decide +kernel
theorem f_130_12 : mFetch 130 12 = some (.aload 4, 2, []) := by decide +kernel
theorem f_130_14 : mFetch 130 14 = some (.arraylength, 1, []) := by decide +kernel
theorem f_130_15 : mFetch 130 15 = some (.istore 5, 2, []) := by decide +kernel
theorem f_130_17 : mFetch 130 17 = some (.iconst 0, 1, []) := by decide +kernel
theorem f_130_18 : mFetch 130 18 = some (.istore 6, 2, []) := by decide +kernel
theorem f_130_20 : mFetch 130 20 = some (.iload 6, 2, []) := by decide +kernel
theorem f_130_22 : mFetch 130 22 = some (.iload 5, 2, []) := by decide +kernel
theorem f_130_24 : mFetch 130 24 = some (.if_icmp .ge 89, 3, [113]) := by decide +kernel
theorem f_130_27 : mFetch 130 27 = some (.aload 4, 2, []) := by decide +kernel
theorem f_130_29 : mFetch 130 29 = some (.iload 6, 2, []) := by decide +kernel
theorem f_130_31 : mFetch 130 31 = some (.iaload, 1, []) := by decide +kernel
theorem f_130_32 : mFetch 130 32 = some (.istore 7, 2, []) := by decide +kernel
theorem f_130_34 : mFetch 130 34 = some (.aload_n 0, 1, []) := by decide +kernel
theorem f_130_35 : mFetch 130 35 = some (.getfield 34, 3, [10, 13, 0, 1348]) := by decide +kernel
theorem f_130_38 : mFetch 130 38 = some (.iload_n 1, 1, []) := by decide +kernel
theorem f_130_39 : mFetch 130 39 = some (.aaload, 1, []) := by decide +kernel
theorem f_130_40 : mFetch 130 40 = some (.aload_n 0, 1, []) := by decide +kernel
theorem f_130_41 : mFetch 130 41 = some (.getfield 21, 3, [10, 9, 0, 1340]) := by decide +kernel
theorem f_130_44 : mFetch 130 44 = some (.iload 7, 2, []) := by decide +kernel
theorem f_130_46 : mFetch 130 46 = some (.aaload, 1, []) := by decide +kernel
theorem f_130_47 : mFetch 130 47 = some (.iconst 0, 1, []) := by decide +kernel
theorem f_130_48 : mFetch 130 48 = some (.iaload, 1, []) := by decide +kernel
theorem f_130_49 : mFetch 130 49 = some (.iaload, 1, []) := by decide +kernel
theorem f_130_50 : mFetch 130 50 = some (.aload_n 0, 1, []) := by decide +kernel
theorem f_130_51 : mFetch 130 51 = some (.getfield 17, 3, [10, 8, 0, 1338]) := by decide +kernel
theorem f_130_54 : mFetch 130 54 = some (.aload_n 0, 1, []) := by decide +kernel
theorem f_130_55 : mFetch 130 55 = some (.getfield 21, 3, [10, 9, 0, 1340]) := by decide +kernel
theorem f_130_58 : mFetch 130 58 = some (.iload 7, 2, []) := by decide +kernel
theorem f_130_60 : mFetch 130 60 = some (.aaload, 1, []) := by decide +kernel
theorem f_130_61 : mFetch 130 61 = some (.iconst 0, 1, []) := by decide +kernel
theorem f_130_62 : mFetch 130 62 = some (.iaload, 1, []) := by decide +kernel
theorem f_130_63 : mFetch 130 63 = some (.iaload, 1, []) := by decide +kernel
theorem f_130_64 : mFetch 130 64 = some (.iadd, 1, []) := by decide +kernel
theorem f_130_65 : mFetch 130 65 = some (.istore 8, 2, []) := by decide +kernel
theorem f_130_67 : mFetch 130 67 = some (.iload 8, 2, []) := by decide +kernel
theorem f_130_69 : mFetch 130 69 = some (.aload_n 0, 1, []) := by decide +kernel
theorem f_130_70 : mFetch 130 70 = some (.getfield 37, 3, [10, 14, 0, 1350]) := by decide +kernel
theorem f_130_73 : mFetch 130 73 = some (.iload_n 1, 1, []) := by decide +kernel
theorem f_130_74 : mFetch 130 74 = some (.aaload, 1, []) := by decide +kernel
theorem f_130_75 : mFetch 130 75 = some (.iload 7, 2, []) := by decide +kernel
theorem f_130_77 : mFetch 130 77 = some (.iaload, 1, []) := by decide +kernel
theorem f_130_78 : mFetch 130 78 = some (.iconst 5, 1, []) := by decide +kernel
theorem f_130_79 : mFetch 130 79 = some (.if_icmp .le 7, 3, [86]) := by decide +kernel
theorem f_130_82 : mFetch 130 82 = some (.iconst 5, 1, []) := by decide +kernel
theorem f_130_83 : mFetch 130 83 = some (.goto 12, 3, [95]) := by decide +kernel
theorem f_130_86 : mFetch 130 86 = some (.aload_n 0, 1, []) := by decide +kernel
theorem f_130_87 : mFetch 130 87 = some (.getfield 37, 3, [10, 14, 0, 1350]) := by decide +kernel
theorem f_130_90 : mFetch 130 90 = some (.iload_n 1, 1, []) := by decide +kernel
theorem f_130_91 : mFetch 130 91 = some (.aaload, 1, []) := by decide +kernel
theorem f_130_92 : mFetch 130 92 = some (.iload 7, 2, []) := by decide +kernel
theorem f_130_94 : mFetch 130 94 = some (.iaload, 1, []) := by decide +kernel
theorem f_130_95 : mFetch 130 95 = some (.iadd, 1, []) := by decide +kernel
theorem f_130_96 : mFetch 130 96 = some (.istore 8, 2, []) := by decide +kernel
theorem f_130_98 : mFetch 130 98 = some (.iload 8, 2, []) := by decide +kernel
theorem f_130_100 : mFetch 130 100 = some (.iload_n 3, 1, []) := by decide +kernel
theorem f_130_101 : mFetch 130 101 = some (.if_icmp .ge 6, 3, [107]) := by decide +kernel
theorem f_130_104 : mFetch 130 104 = some (.iload 8, 2, []) := by decide +kernel
theorem f_130_106 : mFetch 130 106 = some (.istore_n 3, 1, []) := by decide +kernel
theorem f_130_107 : mFetch 130 107 = some (.iinc 6 1, 3, []) := by decide +kernel
theorem f_130_110 : mFetch 130 110 = some (.goto (-90), 3, [20]) := by decide +kernel
theorem f_130_113 : mFetch 130 113 = some (.aload_n 0, 1, []) := by decide +kernel
theorem f_130_114 : mFetch 130 114 = some (.getfield 7, 3, [10, 1, 0, 1329]) := by decide +kernel
theorem f_130_117 : mFetch 130 117 = some (.ifCond .lt 30, 3, [147]) := by decide +kernel
theorem f_130_120 : mFetch 130 120 = some (.aload_n 0, 1, []) := by decide +kernel
theorem f_130_121 : mFetch 130 121 = some (.getfield 65, 3, [10, 4, 0, 1334]) := by decide +kernel
theorem f_130_124 : mFetch 130 124 = some (.iload_n 1, 1, []) := by decide +kernel
theorem f_130_125 : mFetch 130 125 = some (.if_icmp .ne 22, 3, [147]) := by decide +kernel
theorem f_130_128 : mFetch 130 128 = some (.aload_n 0, 1, []) := by decide +kernel
theorem f_130_129 : mFetch 130 129 = some (.invokevirtual 83, 3, [129, 1, 2, 10, 843, 844, 845]) := by decide +kernel
theorem f_130_132 : mFetch 130 132 = some (.iload_n 2, 1, []) := by decide +kernel
theorem f_130_133 : mFetch 130 133 = some (.if_icmp .ne 14, 3, [147]) := by decide +kernel
theorem f_130_136 : mFetch 130 136 = some (.iload_n 3, 1, []) := by decide +kernel
theorem f_130_137 : mFetch 130 137 = some (.iconst 3, 1, []) := by decide +kernel
theorem f_130_138 : mFetch 130 138 = some (.aload_n 0, 1, []) := by decide +kernel
theorem f_130_139 : mFetch 130 139 = some (.getfield 68, 3, [10, 5, 0, 1335]) := by decide +kernel
theorem f_130_142 : mFetch 130 142 = some (.imul, 1, []) := by decide +kernel
theorem f_130_143 : mFetch 130 143 = some (.iadd, 1, []) := by decide +kernel
theorem f_130_144 : mFetch 130 144 = some (.goto 4, 3, [148]) := by decide +kernel
theorem f_130_147 : mFetch 130 147 = some (.iload_n 3, 1, []) := by decide +kernel
theorem f_130_148 : mFetch 130 148 = some (.ireturn, 1, [0]) := by decide +kernel
theorem b_130_0 {d : Nat} {a0 : Nat} {x1 : Int32} {x2 : Nat} {w : MW} (h0 : mTg w a0 = 10) (h1 : mR w a0 10 = some (gR w a0 10)) (h2 : 52 ≤ mTg w (gR w a0 10) ∧ mTg w (gR w a0 10) < 55) (h3 : x2 < 2147483648) (h4 : x2 < mLn w (gR w a0 10)) (h5 : mR w (gR w a0 10) x2 = some (gR w (gR w a0 10) x2)) (h6 : 50 ≤ mTg w (gR w (gR w a0 10) x2) ∧ mTg w (gR w (gR w a0 10) x2) < 55) : mX d 130 0 [.ref a0, .int x1, .int (nI x2), mJ, mJ, mJ, mJ, mJ, mJ] [] w = mX d 130 20 [.ref a0, .int x1, .int (nI x2), .int (nI 999), .ref (gR w (gR w a0 10) x2), .int (nI (mLn w (gR w (gR w a0 10) x2))), .int (nI 0), mJ, mJ] [] w := by
  refine Eq.trans (X_sipush f_130_0 kc_s_999) ?_
  refine Eq.trans (X_istore_n (L' := [.ref a0, .int x1, .int (nI x2), .int (nI 999), mJ, mJ, mJ, mJ, mJ]) f_130_3 (Nat.le_of_ble_eq_true rfl) rfl) ?_
  refine Eq.trans (X_st f_130_4 rfl rfl) ?_
  refine Eq.trans (X_getR f_130_5 h0 rfl h1) ?_
  refine Eq.trans (X_st f_130_8 rfl rfl) ?_
  refine Eq.trans (X_aald f_130_9 h2 (jnn h3) (jcl h3) h4 h5) ?_
  refine Eq.trans (X_astore (L' := [.ref a0, .int x1, .int (nI x2), .int (nI 999), .ref (gR w (gR w a0 10) x2), mJ, mJ, mJ, mJ]) f_130_10 (Nat.le_of_ble_eq_true rfl) rfl) ?_
  refine Eq.trans (X_st f_130_12 rfl rfl) ?_
  refine Eq.trans (X_st f_130_14 rfl (if_pos h6)) ?_
  refine Eq.trans (X_istore (L' := [.ref a0, .int x1, .int (nI x2), .int (nI 999), .ref (gR w (gR w a0 10) x2), .int (nI (mLn w (gR w (gR w a0 10) x2))), mJ, mJ, mJ]) f_130_15 (Nat.le_of_ble_eq_true rfl) rfl) ?_
  refine Eq.trans (X_iconst f_130_17 kc_i_0) ?_
  refine Eq.trans (X_istore (L' := [.ref a0, .int x1, .int (nI x2), .int (nI 999), .ref (gR w (gR w a0 10) x2), .int (nI (mLn w (gR w (gR w a0 10) x2))), .int (nI 0), mJ, mJ]) f_130_18 (Nat.le_of_ble_eq_true rfl) rfl) ?_
  exact mX_mask rfl
theorem e_130 {d : Nat} {a0 : Nat} {x1 : Int32} {x2 : Int32} {w : MW} : mK d 130 [.ref a0, .int x1, .int x2] w = mX d 130 0 [.ref a0, .int x1, .int x2, mJ, mJ, mJ, mJ, mJ, mJ] [] w := rfl
theorem b_130_20 {d : Nat} {a0 : Nat} {x1 : Int32} {x2 : Int32} {x3 : Int32} {a4 : Nat} {x5 : Int32} {x6 : Int32} {w : MW} : mX d 130 20 [.ref a0, .int x1, .int x2, .int x3, .ref a4, .int x5, .int x6, mJ, mJ] [] w = (if x5 ≤ x6 then mX d 130 113 [.ref a0, .int x1, .int x2, .int x3, mJ, mJ, mJ, mJ, mJ] [] w else mX d 130 27 [.ref a0, .int x1, .int x2, .int x3, .ref a4, .int x5, .int x6, mJ, mJ] [] w) := by
  refine Eq.trans (X_st f_130_20 rfl rfl) ?_
  refine Eq.trans (X_st f_130_22 rfl rfl) ?_
  refine Eq.trans (X_br f_130_24 rfl rfl) ?_
  exact mIte_eq (mX_mask rfl) (mX_mask rfl)
theorem b_130_27 {d : Nat} {a0 : Nat} {x1 : Nat} {x2 : Int32} {x3 : Int32} {a4 : Nat} {x5 : Int32} {x6 : Nat} {z0 : Nat} {z1 : Nat} {w : MW} (h0 : mTg w a4 = 50) (h1 : x6 < 2147483648) (h2 : x6 < mLn w a4) (h3 : mTg w a0 = 10) (h4 : mR w a0 13 = some (gR w a0 13)) (h5 : 52 ≤ mTg w (gR w a0 13) ∧ mTg w (gR w a0 13) < 55) (h6 : x1 < 2147483648) (h7 : x1 < mLn w (gR w a0 13)) (h8 : mR w (gR w a0 13) x1 = some (gR w (gR w a0 13) x1)) (h9 : mR w a0 9 = some (gR w a0 9)) (h10 : 52 ≤ mTg w (gR w a0 9) ∧ mTg w (gR w a0 9) < 55) (h11 : (mI w a4 x6) = nI z0) (h12 : z0 < 2147483648) (h13 : z0 < mLn w (gR w a0 9)) (h14 : mR w (gR w a0 9) z0 = some (gR w (gR w a0 9) z0)) (h15 : mTg w (gR w (gR w a0 9) z0) = 50) (h16 : 0 < mLn w (gR w (gR w a0 9) z0)) (h17 : mTg w (gR w (gR w a0 13) x1) = 50) (h18 : (mI w (gR w (gR w a0 9) z0) 0) = nI z1) (h19 : z1 < 2147483648) (h20 : z1 < mLn w (gR w (gR w a0 13) x1)) (h21 : mR w a0 8 = some (gR w a0 8)) (h22 : mTg w (gR w a0 8) = 50) (h23 : z1 < mLn w (gR w a0 8)) (h24 : mR w a0 14 = some (gR w a0 14)) (h25 : 52 ≤ mTg w (gR w a0 14) ∧ mTg w (gR w a0 14) < 55) (h26 : x1 < mLn w (gR w a0 14)) (h27 : mR w (gR w a0 14) x1 = some (gR w (gR w a0 14) x1)) (h28 : mTg w (gR w (gR w a0 14) x1) = 50) (h29 : z0 < mLn w (gR w (gR w a0 14) x1)) : mX d 130 27 [.ref a0, .int (nI x1), .int x2, .int x3, .ref a4, .int x5, .int (nI x6), mJ, mJ] [] w = (if (mI w (gR w (gR w a0 14) x1) z0) ≤ (nI 5) then mX d 130 86 [.ref a0, .int (nI x1), .int x2, .int x3, .ref a4, .int x5, .int (nI x6), .int (mI w a4 x6), mJ] [.int ((mI w (gR w (gR w a0 13) x1) z1) + (mI w (gR w a0 8) z1))] w else mX d 130 82 [.ref a0, .int (nI x1), .int x2, .int x3, .ref a4, .int x5, .int (nI x6), mJ, mJ] [.int ((mI w (gR w (gR w a0 13) x1) z1) + (mI w (gR w a0 8) z1))] w) := by
  refine Eq.trans (X_st f_130_27 rfl rfl) ?_
  refine Eq.trans (X_st f_130_29 rfl rfl) ?_
  refine Eq.trans (X_iald f_130_31 h0 (jnn h1) (jcl h1) h2) ?_
  refine Eq.trans (X_istore (L' := [.ref a0, .int (nI x1), .int x2, .int x3, .ref a4, .int x5, .int (nI x6), .int (mI w a4 x6), mJ]) f_130_32 (Nat.le_of_ble_eq_true rfl) rfl) ?_
  refine Eq.trans (X_st f_130_34 rfl rfl) ?_
  refine Eq.trans (X_getR f_130_35 h3 rfl h4) ?_
  refine Eq.trans (X_st f_130_38 rfl rfl) ?_
  refine Eq.trans (X_aald f_130_39 h5 (jnn h6) (jcl h6) h7 h8) ?_
  refine Eq.trans (X_st f_130_40 rfl rfl) ?_
  refine Eq.trans (X_getR f_130_41 h3 rfl h9) ?_
  refine Eq.trans (X_st f_130_44 rfl rfl) ?_
  refine Eq.trans (X_aald f_130_46 h10 (jnnE h11 h12) (jclE h11 h12) h13 h14) ?_
  refine Eq.trans (X_iconst f_130_47 kc_i_0) ?_
  refine Eq.trans (X_iald f_130_48 h15 kn_0 kl_0 h16) ?_
  refine Eq.trans (X_iald f_130_49 h17 (jnnE h18 h19) (jclE h18 h19) h20) ?_
  refine Eq.trans (X_st f_130_50 rfl rfl) ?_
  refine Eq.trans (X_getR f_130_51 h3 rfl h21) ?_
  refine Eq.trans (X_st f_130_54 rfl rfl) ?_
  refine Eq.trans (X_getR f_130_55 h3 rfl h9) ?_
  refine Eq.trans (X_st f_130_58 rfl rfl) ?_
  refine Eq.trans (X_aald f_130_60 h10 (jnnE h11 h12) (jclE h11 h12) h13 h14) ?_
  refine Eq.trans (X_iconst f_130_61 kc_i_0) ?_
  refine Eq.trans (X_iald f_130_62 h15 kn_0 kl_0 h16) ?_
  refine Eq.trans (X_iald f_130_63 h22 (jnnE h18 h19) (jclE h18 h19) h23) ?_
  refine Eq.trans (X_st f_130_64 rfl rfl) ?_
  refine Eq.trans (X_istore (L' := [.ref a0, .int (nI x1), .int x2, .int x3, .ref a4, .int x5, .int (nI x6), .int (mI w a4 x6), .int ((mI w (gR w (gR w a0 13) x1) z1) + (mI w (gR w a0 8) z1))]) f_130_65 (Nat.le_of_ble_eq_true rfl) rfl) ?_
  refine Eq.trans (X_st f_130_67 rfl rfl) ?_
  refine Eq.trans (X_st f_130_69 rfl rfl) ?_
  refine Eq.trans (X_getR f_130_70 h3 rfl h24) ?_
  refine Eq.trans (X_st f_130_73 rfl rfl) ?_
  refine Eq.trans (X_aald f_130_74 h25 (jnn h6) (jcl h6) h26 h27) ?_
  refine Eq.trans (X_st f_130_75 rfl rfl) ?_
  refine Eq.trans (X_iald f_130_77 h28 (jnnE h11 h12) (jclE h11 h12) h29) ?_
  refine Eq.trans (X_iconst f_130_78 kc_i_5) ?_
  refine Eq.trans (X_br f_130_79 rfl rfl) ?_
  exact mIte_eq (mX_mask rfl) (mX_mask rfl)
theorem b_130_82 {d : Nat} {a0 : Nat} {x1 : Int32} {x2 : Int32} {x3 : Int32} {a4 : Nat} {x5 : Int32} {x6 : Int32} {y0 : Int32} {w : MW} : mX d 130 82 [.ref a0, .int x1, .int x2, .int x3, .ref a4, .int x5, .int x6, mJ, mJ] [.int y0] w = mX d 130 95 [.ref a0, .int x1, .int x2, .int x3, .ref a4, .int x5, .int x6, mJ, mJ] [.int (nI 5), .int y0] w := by
  refine Eq.trans (X_iconst f_130_82 kc_i_5) ?_
  refine Eq.trans (X_st f_130_83 rfl rfl) ?_
  exact mX_mask rfl
theorem b_130_86 {d : Nat} {a0 : Nat} {x1 : Nat} {x2 : Int32} {x3 : Int32} {a4 : Nat} {x5 : Int32} {x6 : Int32} {x7 : Nat} {y0 : Int32} {w : MW} (h0 : mTg w a0 = 10) (h1 : mR w a0 14 = some (gR w a0 14)) (h2 : 52 ≤ mTg w (gR w a0 14) ∧ mTg w (gR w a0 14) < 55) (h3 : x1 < 2147483648) (h4 : x1 < mLn w (gR w a0 14)) (h5 : mR w (gR w a0 14) x1 = some (gR w (gR w a0 14) x1)) (h6 : mTg w (gR w (gR w a0 14) x1) = 50) (h7 : x7 < 2147483648) (h8 : x7 < mLn w (gR w (gR w a0 14) x1)) : mX d 130 86 [.ref a0, .int (nI x1), .int x2, .int x3, .ref a4, .int x5, .int x6, .int (nI x7), mJ] [.int y0] w = mX d 130 95 [.ref a0, .int (nI x1), .int x2, .int x3, .ref a4, .int x5, .int x6, mJ, mJ] [.int (mI w (gR w (gR w a0 14) x1) x7), .int y0] w := by
  refine Eq.trans (X_st f_130_86 rfl rfl) ?_
  refine Eq.trans (X_getR f_130_87 h0 rfl h1) ?_
  refine Eq.trans (X_st f_130_90 rfl rfl) ?_
  refine Eq.trans (X_aald f_130_91 h2 (jnn h3) (jcl h3) h4 h5) ?_
  refine Eq.trans (X_st f_130_92 rfl rfl) ?_
  refine Eq.trans (X_iald f_130_94 h6 (jnn h7) (jcl h7) h8) ?_
  exact mX_mask rfl
theorem b_130_95 {d : Nat} {a0 : Nat} {x1 : Int32} {x2 : Int32} {x3 : Int32} {a4 : Nat} {x5 : Int32} {x6 : Int32} {y0 : Int32} {y1 : Int32} {w : MW} : mX d 130 95 [.ref a0, .int x1, .int x2, .int x3, .ref a4, .int x5, .int x6, mJ, mJ] [.int y0, .int y1] w = (if x3 ≤ (y1 + y0) then mX d 130 107 [.ref a0, .int x1, .int x2, .int x3, .ref a4, .int x5, .int x6, mJ, mJ] [] w else mX d 130 104 [.ref a0, .int x1, .int x2, mJ, .ref a4, .int x5, .int x6, mJ, .int (y1 + y0)] [] w) := by
  refine Eq.trans (X_st f_130_95 rfl rfl) ?_
  refine Eq.trans (X_istore (L' := [.ref a0, .int x1, .int x2, .int x3, .ref a4, .int x5, .int x6, mJ, .int (y1 + y0)]) f_130_96 (Nat.le_of_ble_eq_true rfl) rfl) ?_
  refine Eq.trans (X_st f_130_98 rfl rfl) ?_
  refine Eq.trans (X_st f_130_100 rfl rfl) ?_
  refine Eq.trans (X_br f_130_101 rfl rfl) ?_
  exact mIte_eq (mX_mask rfl) (mX_mask rfl)
theorem b_130_104 {d : Nat} {a0 : Nat} {x1 : Int32} {x2 : Int32} {a4 : Nat} {x5 : Int32} {x6 : Int32} {x8 : Int32} {w : MW} : mX d 130 104 [.ref a0, .int x1, .int x2, mJ, .ref a4, .int x5, .int x6, mJ, .int x8] [] w = mX d 130 107 [.ref a0, .int x1, .int x2, .int x8, .ref a4, .int x5, .int x6, mJ, mJ] [] w := by
  refine Eq.trans (X_st f_130_104 rfl rfl) ?_
  refine Eq.trans (X_istore_n (L' := [.ref a0, .int x1, .int x2, .int x8, .ref a4, .int x5, .int x6, mJ, .int x8]) f_130_106 (Nat.le_of_ble_eq_true rfl) rfl) ?_
  exact mX_mask rfl
theorem b_130_107 {d : Nat} {a0 : Nat} {x1 : Int32} {x2 : Int32} {x3 : Int32} {a4 : Nat} {x5 : Int32} {x6 : Int32} {w : MW} : mX d 130 107 [.ref a0, .int x1, .int x2, .int x3, .ref a4, .int x5, .int x6, mJ, mJ] [] w = mX d 130 20 [.ref a0, .int x1, .int x2, .int x3, .ref a4, .int x5, .int (x6 + (nI 1)), mJ, mJ] [] w := by
  refine Eq.trans (X_iinc f_130_107 kc_i_1 rfl rfl) ?_
  refine Eq.trans (X_st f_130_110 rfl rfl) ?_
  exact mX_mask rfl
theorem b_130_113 {d : Nat} {a0 : Nat} {x1 : Int32} {x2 : Int32} {x3 : Int32} {w : MW} (h0 : mTg w a0 = 10) : mX d 130 113 [.ref a0, .int x1, .int x2, .int x3, mJ, mJ, mJ, mJ, mJ] [] w = (if (mI w a0 1) < nI 0 then mX d 130 147 [mJ, mJ, mJ, .int x3, mJ, mJ, mJ, mJ, mJ] [] w else mX d 130 120 [.ref a0, .int x1, .int x2, .int x3, mJ, mJ, mJ, mJ, mJ] [] w) := by
  refine Eq.trans (X_st f_130_113 rfl rfl) ?_
  refine Eq.trans (X_getI f_130_114 h0 rfl) ?_
  refine Eq.trans (X_br f_130_117 rfl rfl) ?_
  exact mIte_eq (mX_mask rfl) (mX_mask rfl)
theorem b_130_120 {d : Nat} {a0 : Nat} {x1 : Int32} {x2 : Int32} {x3 : Int32} {w : MW} (h0 : mTg w a0 = 10) : mX d 130 120 [.ref a0, .int x1, .int x2, .int x3, mJ, mJ, mJ, mJ, mJ] [] w = (if ¬ (mI w a0 4) = x1 then mX d 130 147 [mJ, mJ, mJ, .int x3, mJ, mJ, mJ, mJ, mJ] [] w else mX d 130 128 [.ref a0, mJ, .int x2, .int x3, mJ, mJ, mJ, mJ, mJ] [] w) := by
  refine Eq.trans (X_st f_130_120 rfl rfl) ?_
  refine Eq.trans (X_getI f_130_121 h0 rfl) ?_
  refine Eq.trans (X_st f_130_124 rfl rfl) ?_
  refine Eq.trans (X_br f_130_125 rfl rfl) ?_
  exact mIte_eq (mX_mask rfl) (mX_mask rfl)
theorem b_130_128 {d : Nat} {a0 : Nat} {x2 : Int32} {x3 : Int32} {w : MW} (h0 : mTg w a0 = 10) : mX (d + 1) 130 128 [.ref a0, mJ, .int x2, .int x3, mJ, mJ, mJ, mJ, mJ] [] w = mThen (mK d 129 [.ref a0] w) (fun v w9 => mX (d + 1) 130 132 [.ref a0, mJ, .int x2, .int x3, mJ, mJ, mJ, mJ, mJ] (v.toList ++ []) w9) := by
  refine Eq.trans (X_st f_130_128 rfl rfl) ?_
  refine Eq.trans (X_call f_130_129 (by decide) rfl rfl rfl rfl rfl rfl (Nat.le_of_ble_eq_true rfl) (Nat.le_of_ble_eq_true rfl) (decide_eq_true h0) (Nat.le_of_ble_eq_true rfl)) ?_
  exact mThen_eq fun v w9 => mX_mask rfl
theorem b_130_132 {d : Nat} {a0 : Nat} {x2 : Int32} {x3 : Int32} {y0 : Int32} {w : MW} : mX d 130 132 [.ref a0, mJ, .int x2, .int x3, mJ, mJ, mJ, mJ, mJ] [.int y0] w = (if ¬ y0 = x2 then mX d 130 147 [mJ, mJ, mJ, .int x3, mJ, mJ, mJ, mJ, mJ] [] w else mX d 130 136 [.ref a0, mJ, mJ, .int x3, mJ, mJ, mJ, mJ, mJ] [] w) := by
  refine Eq.trans (X_st f_130_132 rfl rfl) ?_
  refine Eq.trans (X_br f_130_133 rfl rfl) ?_
  exact mIte_eq (mX_mask rfl) (mX_mask rfl)
theorem b_130_136 {d : Nat} {a0 : Nat} {x3 : Int32} {w : MW} (h0 : mTg w a0 = 10) : mX d 130 136 [.ref a0, mJ, mJ, .int x3, mJ, mJ, mJ, mJ, mJ] [] w = mX d 130 148 [mJ, mJ, mJ, mJ, mJ, mJ, mJ, mJ, mJ] [.int (x3 + ((nI 3) * (mI w a0 5)))] w := by
  refine Eq.trans (X_st f_130_136 rfl rfl) ?_
  refine Eq.trans (X_iconst f_130_137 kc_i_3) ?_
  refine Eq.trans (X_st f_130_138 rfl rfl) ?_
  refine Eq.trans (X_getI f_130_139 h0 rfl) ?_
  refine Eq.trans (X_st f_130_142 rfl rfl) ?_
  refine Eq.trans (X_st f_130_143 rfl rfl) ?_
  refine Eq.trans (X_st f_130_144 rfl rfl) ?_
  exact mX_mask rfl
theorem b_130_147 {d : Nat} {x3 : Int32} {w : MW} : mX d 130 147 [mJ, mJ, mJ, .int x3, mJ, mJ, mJ, mJ, mJ] [] w = mX d 130 148 [mJ, mJ, mJ, mJ, mJ, mJ, mJ, mJ, mJ] [.int x3] w := by
  refine Eq.trans (X_st f_130_147 rfl rfl) ?_
  exact mX_mask rfl
theorem b_130_148 {d : Nat} {y0 : Int32} {w : MW} : mX d 130 148 [mJ, mJ, mJ, mJ, mJ, mJ, mJ, mJ, mJ] [.int y0] w = some (.inl (some (.int y0)), w) := by
  exact X_ireturn f_130_148 rfl
/-! BeeTurnpikeLaw$Sim gap (I)I -/
theorem f_131_0 : mFetch 131 0 = some (.aload_n 0, 1, []) := by decide +kernel
theorem f_131_1 : mFetch 131 1 = some (.getfield 7, 3, [10, 1, 0, 1329]) := by decide +kernel
theorem f_131_4 : mFetch 131 4 = some (.ifCond .ge 7, 3, [11]) := by decide +kernel
theorem f_131_7 : mFetch 131 7 = some (.iconst 0, 1, []) := by decide +kernel
theorem f_131_8 : mFetch 131 8 = some (.goto 21, 3, [29]) := by decide +kernel
theorem f_131_11 : mFetch 131 11 = some (.aload_n 0, 1, []) := by decide +kernel
theorem f_131_12 : mFetch 131 12 = some (.aload_n 0, 1, []) := by decide +kernel
theorem f_131_13 : mFetch 131 13 = some (.invokevirtual 83, 3, [129, 1, 2, 10, 843, 844, 845]) := by decide +kernel
theorem f_131_16 : mFetch 131 16 = some (.invokevirtual 87, 3, [128, 2, 2, 10, 847, 848, 849]) := by decide +kernel
theorem f_131_19 : mFetch 131 19 = some (.aload_n 0, 1, []) := by decide +kernel
theorem f_131_20 : mFetch 131 20 = some (.iload_n 1, 1, []) := by decide +kernel
theorem f_131_21 : mFetch 131 21 = some (.aload_n 0, 1, []) := by decide +kernel
theorem f_131_22 : mFetch 131 22 = some (.invokevirtual 83, 3, [129, 1, 2, 10, 843, 844, 845]) := by decide +kernel
theorem f_131_25 : mFetch 131 25 = some (.invokevirtual 90, 3, [130, 3, 2, 10, 855, 856, 857]) := by decide +kernel
theorem f_131_28 : mFetch 131 28 = some (.isub, 1, []) := by decide +kernel
theorem f_131_29 : mFetch 131 29 = some (.ireturn, 1, [0]) := by decide +kernel
theorem b_131_0 {d : Nat} {a0 : Nat} {x1 : Int32} {w : MW} (h0 : mTg w a0 = 10) : mX d 131 0 [.ref a0, .int x1] [] w = (if nI 0 ≤ (mI w a0 1) then mX d 131 11 [.ref a0, .int x1] [] w else mX d 131 7 [mJ, mJ] [] w) := by
  refine Eq.trans (X_st f_131_0 rfl rfl) ?_
  refine Eq.trans (X_getI f_131_1 h0 rfl) ?_
  refine Eq.trans (X_br f_131_4 rfl rfl) ?_
  exact mIte_eq (mX_mask rfl) (mX_mask rfl)
theorem e_131 {d : Nat} {a0 : Nat} {x1 : Int32} {w : MW} : mK d 131 [.ref a0, .int x1] w = mX d 131 0 [.ref a0, .int x1] [] w := rfl
theorem b_131_7 {d : Nat} {w : MW} : mX d 131 7 [mJ, mJ] [] w = mX d 131 29 [mJ, mJ] [.int (nI 0)] w := by
  refine Eq.trans (X_iconst f_131_7 kc_i_0) ?_
  refine Eq.trans (X_st f_131_8 rfl rfl) ?_
  exact mX_mask rfl
theorem b_131_11 {d : Nat} {a0 : Nat} {x1 : Int32} {w : MW} (h0 : mTg w a0 = 10) : mX (d + 1) 131 11 [.ref a0, .int x1] [] w = mThen (mK d 129 [.ref a0] w) (fun v w9 => mX (d + 1) 131 16 [.ref a0, .int x1] (v.toList ++ [.ref a0]) w9) := by
  refine Eq.trans (X_st f_131_11 rfl rfl) ?_
  refine Eq.trans (X_st f_131_12 rfl rfl) ?_
  refine Eq.trans (X_call f_131_13 (by decide) rfl rfl rfl rfl rfl rfl (Nat.le_of_ble_eq_true rfl) (Nat.le_of_ble_eq_true rfl) (decide_eq_true h0) (Nat.le_of_ble_eq_true rfl)) ?_
  exact mThen_eq fun v w9 => mX_mask rfl
theorem b_131_16 {d : Nat} {a0 : Nat} {x1 : Int32} {y0 : Int32} {b1 : Nat} {w : MW} (h0 : mTg w b1 = 10) : mX (d + 1) 131 16 [.ref a0, .int x1] [.int y0, .ref b1] w = mThen (mK d 128 [.ref b1, .int y0] w) (fun v w9 => mX (d + 1) 131 19 [.ref a0, .int x1] (v.toList ++ []) w9) := by
  refine Eq.trans (X_call f_131_16 (by decide) rfl rfl rfl rfl rfl rfl (Nat.le_of_ble_eq_true rfl) (Nat.le_of_ble_eq_true rfl) (decide_eq_true h0) (Nat.le_of_ble_eq_true rfl)) ?_
  exact mThen_eq fun v w9 => mX_mask rfl
theorem b_131_19 {d : Nat} {a0 : Nat} {x1 : Int32} {y0 : Int32} {w : MW} (h0 : mTg w a0 = 10) : mX (d + 1) 131 19 [.ref a0, .int x1] [.int y0] w = mThen (mK d 129 [.ref a0] w) (fun v w9 => mX (d + 1) 131 25 [mJ, mJ] (v.toList ++ [.int x1, .ref a0, .int y0]) w9) := by
  refine Eq.trans (X_st f_131_19 rfl rfl) ?_
  refine Eq.trans (X_st f_131_20 rfl rfl) ?_
  refine Eq.trans (X_st f_131_21 rfl rfl) ?_
  refine Eq.trans (X_call f_131_22 (by decide) rfl rfl rfl rfl rfl rfl (Nat.le_of_ble_eq_true rfl) (Nat.le_of_ble_eq_true rfl) (decide_eq_true h0) (Nat.le_of_ble_eq_true rfl)) ?_
  exact mThen_eq fun v w9 => mX_mask rfl
theorem b_131_25 {d : Nat} {y0 : Int32} {y1 : Int32} {b2 : Nat} {y3 : Int32} {w : MW} (h0 : mTg w b2 = 10) : mX (d + 1) 131 25 [mJ, mJ] [.int y0, .int y1, .ref b2, .int y3] w = mThen (mK d 130 [.ref b2, .int y1, .int y0] w) (fun v w9 => mX (d + 1) 131 28 [mJ, mJ] (v.toList ++ [.int y3]) w9) := by
  refine Eq.trans (X_call f_131_25 (by decide) rfl rfl rfl rfl rfl rfl (Nat.le_of_ble_eq_true rfl) (Nat.le_of_ble_eq_true rfl) (decide_eq_true h0) (Nat.le_of_ble_eq_true rfl)) ?_
  exact mThen_eq fun v w9 => mX_mask rfl
theorem b_131_28 {d : Nat} {y0 : Int32} {y1 : Int32} {w : MW} : mX d 131 28 [mJ, mJ] [.int y0, .int y1] w = mX d 131 29 [mJ, mJ] [.int (y1 - y0)] w := by
  refine Eq.trans (X_st f_131_28 rfl rfl) ?_
  exact mX_mask rfl
theorem b_131_29 {d : Nat} {y0 : Int32} {w : MW} : mX d 131 29 [mJ, mJ] [.int y0] w = some (.inl (some (.int y0)), w) := by
  exact X_ireturn f_131_29 rfl
/-! BeeTurnpikeLaw$Sim left ()I -/
theorem f_132_0 : mFetch 132 0 = some (.iconst 0, 1, []) := by decide +kernel
theorem f_132_1 : mFetch 132 1 = some (.istore_n 1, 1, []) := by decide +kernel
theorem f_132_2 : mFetch 132 2 = some (.aload_n 0, 1, []) := by decide +kernel
theorem f_132_3 : mFetch 132 3 = some (.getfield 31, 3, [10, 12, 0, 1346]) := by decide +kernel
theorem f_132_6 : mFetch 132 6 = some (.astore_n 2, 1, []) := by decide +kernel
theorem f_132_7 : mFetch 132 7 = some (.aload_n 2, 1, []) := by decide +kernel
theorem f_132_8 : mFetch 132 8 = some (.arraylength, 1, []) := by decide +kernel
theorem f_132_9 : mFetch 132 9 = some (.istore_n 3, 1, []) := by decide +kernel
theorem f_132_10 : mFetch 132 10 = some (.iconst 0, 1, []) := by decide +kernel
theorem f_132_11 : mFetch 132 11 = some (.istore 4, 2, []) := by decide +kernel
theorem f_132_13 : mFetch 132 13 = some (.iload 4, 2, []) := by decide +kernel
theorem f_132_15 : mFetch 132 15 = some (.iload_n 3, 1, []) := by decide +kernel
theorem f_132_16 : mFetch 132 16 = some (.if_icmp .ge 22, 3, [38]) := by decide +kernel
theorem f_132_19 : mFetch 132 19 = some (.aload_n 2, 1, []) := by decide +kernel
theorem f_132_20 : mFetch 132 20 = some (.iload 4, 2, []) := by decide +kernel
theorem f_132_22 : mFetch 132 22 = some (.aaload, 1, []) := by decide +kernel
theorem f_132_23 : mFetch 132 23 = some (.astore 5, 2, []) := by decide +kernel
theorem f_132_25 : mFetch 132 25 = some (.iload_n 1, 1, []) := by decide +kernel
theorem f_132_26 : mFetch 132 26 = some (.aload 5, 2, []) := by decide +kernel
theorem f_132_28 : mFetch 132 28 = some (.iconst 0, 1, []) := by decide +kernel
theorem f_132_29 : mFetch 132 29 = some (.iaload, 1, []) := by decide +kernel
theorem f_132_30 : mFetch 132 30 = some (.iadd, 1, []) := by decide +kernel
theorem f_132_31 : mFetch 132 31 = some (.istore_n 1, 1, []) := by decide +kernel
theorem f_132_32 : mFetch 132 32 = some (.iinc 4 1, 3, []) := by decide +kernel
theorem f_132_35 : mFetch 132 35 = some (.goto (-22), 3, [13]) := by decide +kernel
theorem f_132_38 : mFetch 132 38 = some (.iload_n 1, 1, []) := by decide +kernel
theorem f_132_39 : mFetch 132 39 = some (.ireturn, 1, [0]) := by decide +kernel
theorem b_132_0 {d : Nat} {a0 : Nat} {w : MW} (h0 : mTg w a0 = 10) (h1 : mR w a0 12 = some (gR w a0 12)) (h2 : 50 ≤ mTg w (gR w a0 12) ∧ mTg w (gR w a0 12) < 55) : mX d 132 0 [.ref a0, mJ, mJ, mJ, mJ, mJ] [] w = mX d 132 13 [mJ, .int (nI 0), .ref (gR w a0 12), .int (nI (mLn w (gR w a0 12))), .int (nI 0), mJ] [] w := by
  refine Eq.trans (X_iconst f_132_0 kc_i_0) ?_
  refine Eq.trans (X_istore_n (L' := [.ref a0, .int (nI 0), mJ, mJ, mJ, mJ]) f_132_1 (Nat.le_of_ble_eq_true rfl) rfl) ?_
  refine Eq.trans (X_st f_132_2 rfl rfl) ?_
  refine Eq.trans (X_getR f_132_3 h0 rfl h1) ?_
  refine Eq.trans (X_astore_n (L' := [.ref a0, .int (nI 0), .ref (gR w a0 12), mJ, mJ, mJ]) f_132_6 (Nat.le_of_ble_eq_true rfl) rfl) ?_
  refine Eq.trans (X_st f_132_7 rfl rfl) ?_
  refine Eq.trans (X_st f_132_8 rfl (if_pos h2)) ?_
  refine Eq.trans (X_istore_n (L' := [.ref a0, .int (nI 0), .ref (gR w a0 12), .int (nI (mLn w (gR w a0 12))), mJ, mJ]) f_132_9 (Nat.le_of_ble_eq_true rfl) rfl) ?_
  refine Eq.trans (X_iconst f_132_10 kc_i_0) ?_
  refine Eq.trans (X_istore (L' := [.ref a0, .int (nI 0), .ref (gR w a0 12), .int (nI (mLn w (gR w a0 12))), .int (nI 0), mJ]) f_132_11 (Nat.le_of_ble_eq_true rfl) rfl) ?_
  exact mX_mask rfl
theorem e_132 {d : Nat} {a0 : Nat} {w : MW} : mK d 132 [.ref a0] w = mX d 132 0 [.ref a0, mJ, mJ, mJ, mJ, mJ] [] w := rfl
theorem b_132_13 {d : Nat} {x1 : Int32} {a2 : Nat} {x3 : Int32} {x4 : Int32} {w : MW} : mX d 132 13 [mJ, .int x1, .ref a2, .int x3, .int x4, mJ] [] w = (if x3 ≤ x4 then mX d 132 38 [mJ, .int x1, mJ, mJ, mJ, mJ] [] w else mX d 132 19 [mJ, .int x1, .ref a2, .int x3, .int x4, mJ] [] w) := by
  refine Eq.trans (X_st f_132_13 rfl rfl) ?_
  refine Eq.trans (X_st f_132_15 rfl rfl) ?_
  refine Eq.trans (X_br f_132_16 rfl rfl) ?_
  exact mIte_eq (mX_mask rfl) (mX_mask rfl)
theorem b_132_19 {d : Nat} {x1 : Int32} {a2 : Nat} {x3 : Int32} {x4 : Nat} {w : MW} (h0 : 52 ≤ mTg w a2 ∧ mTg w a2 < 55) (h1 : x4 < 2147483648) (h2 : x4 < mLn w a2) (h3 : mR w a2 x4 = some (gR w a2 x4)) (h4 : mTg w (gR w a2 x4) = 50) (h5 : 0 < mLn w (gR w a2 x4)) : mX d 132 19 [mJ, .int x1, .ref a2, .int x3, .int (nI x4), mJ] [] w = mX d 132 13 [mJ, .int (x1 + (mI w (gR w a2 x4) 0)), .ref a2, .int x3, .int ((nI x4) + (nI 1)), mJ] [] w := by
  refine Eq.trans (X_st f_132_19 rfl rfl) ?_
  refine Eq.trans (X_st f_132_20 rfl rfl) ?_
  refine Eq.trans (X_aald f_132_22 h0 (jnn h1) (jcl h1) h2 h3) ?_
  refine Eq.trans (X_astore (L' := [mJ, .int x1, .ref a2, .int x3, .int (nI x4), .ref (gR w a2 x4)]) f_132_23 (Nat.le_of_ble_eq_true rfl) rfl) ?_
  refine Eq.trans (X_st f_132_25 rfl rfl) ?_
  refine Eq.trans (X_st f_132_26 rfl rfl) ?_
  refine Eq.trans (X_iconst f_132_28 kc_i_0) ?_
  refine Eq.trans (X_iald f_132_29 h4 kn_0 kl_0 h5) ?_
  refine Eq.trans (X_st f_132_30 rfl rfl) ?_
  refine Eq.trans (X_istore_n (L' := [mJ, .int (x1 + (mI w (gR w a2 x4) 0)), .ref a2, .int x3, .int (nI x4), .ref (gR w a2 x4)]) f_132_31 (Nat.le_of_ble_eq_true rfl) rfl) ?_
  refine Eq.trans (X_iinc f_132_32 kc_i_1 rfl rfl) ?_
  refine Eq.trans (X_st f_132_35 rfl rfl) ?_
  exact mX_mask rfl
theorem b_132_38 {d : Nat} {x1 : Int32} {w : MW} : mX d 132 38 [mJ, .int x1, mJ, mJ, mJ, mJ] [] w = some (.inl (some (.int x1)), w) := by
  refine Eq.trans (X_st f_132_38 rfl rfl) ?_
  exact X_ireturn f_132_39 rfl
/-! BeeTurnpikeLaw$Sim rank (I)I -/
theorem f_133_0 : mFetch 133 0 = some (.iconst 0, 1, []) := by decide +kernel
theorem f_133_1 : mFetch 133 1 = some (.istore_n 2, 1, []) := by decide +kernel
theorem f_133_2 : mFetch 133 2 = some (.iconst 0, 1, []) := by decide +kernel
theorem f_133_3 : mFetch 133 3 = some (.istore_n 3, 1, []) := by decide +kernel
theorem f_133_4 : mFetch 133 4 = some (.iload_n 3, 1, []) := by decide +kernel
theorem f_133_5 : mFetch 133 5 = some (.aload_n 0, 1, []) := by decide +kernel
theorem f_133_6 : mFetch 133 6 = some (.getfield 31, 3, [10, 12, 0, 1346]) := by decide +kernel
theorem f_133_9 : mFetch 133 9 = some (.arraylength, 1, []) := by decide +kernel
theorem f_133_10 : mFetch 133 10 = some (.if_icmp .ge 93, 3, [103]) := by decide +kernel
theorem f_133_13 : mFetch 133 13 = some (.iload_n 3, 1, []) := by decide +kernel
theorem f_133_14 : mFetch 133 14 = some (.iload_n 1, 1, []) := by decide +kernel
theorem f_133_15 : mFetch 133 15 = some (.if_icmp .ne 6, 3, [21]) := by decide +kernel
theorem f_133_18 : mFetch 133 18 = some (.goto 79, 3, [97]) := by decide +kernel
theorem f_133_21 : mFetch 133 21 = some (.sipush 1000, 3, []) := by decide +kernel
theorem f_133_24 : mFetch 133 24 = some (.aload_n 0, 1, []) := by decide +kernel
theorem f_133_25 : mFetch 133 25 = some (.getfield 31, 3, [10, 12, 0, 1346]) := by decide +kernel
theorem f_133_28 : mFetch 133 28 = some (.iload_n 3, 1, []) := by decide +kernel
theorem f_133_29 : mFetch 133 29 = some (.aaload, 1, []) := by decide +kernel
theorem f_133_30 : mFetch 133 30 = some (.iconst 0, 1, []) := by decide +kernel
theorem f_133_31 : mFetch 133 31 = some (.iaload, 1, []) := by decide +kernel
theorem f_133_32 : mFetch 133 32 = some (.aload_n 0, 1, []) := by decide +kernel
theorem f_133_33 : mFetch 133 33 = some (.getfield 31, 3, [10, 12, 0, 1346]) := by decide +kernel
theorem f_133_36 : mFetch 133 36 = some (.iload_n 1, 1, []) := by decide +kernel
theorem f_133_37 : mFetch 133 37 = some (.aaload, 1, []) := by decide +kernel
theorem f_133_38 : mFetch 133 38 = some (.iconst 0, 1, []) := by decide +kernel
theorem f_133_39 : mFetch 133 39 = some (.iaload, 1, []) := by decide +kernel
theorem f_133_40 : mFetch 133 40 = some (.isub, 1, []) := by decide +kernel
theorem f_133_41 : mFetch 133 41 = some (.imul, 1, []) := by decide +kernel
theorem f_133_42 : mFetch 133 42 = some (.sipush 900, 3, []) := by decide +kernel
theorem f_133_45 : mFetch 133 45 = some (.sipush (-900), 3, []) := by decide +kernel
theorem f_133_48 : mFetch 133 48 = some (.aload_n 0, 1, []) := by decide +kernel
theorem f_133_49 : mFetch 133 49 = some (.getfield 31, 3, [10, 12, 0, 1346]) := by decide +kernel
theorem f_133_52 : mFetch 133 52 = some (.iload_n 3, 1, []) := by decide +kernel
theorem f_133_53 : mFetch 133 53 = some (.aaload, 1, []) := by decide +kernel
theorem f_133_54 : mFetch 133 54 = some (.iconst 1, 1, []) := by decide +kernel
theorem f_133_55 : mFetch 133 55 = some (.iaload, 1, []) := by decide +kernel
theorem f_133_56 : mFetch 133 56 = some (.aload_n 0, 1, []) := by decide +kernel
theorem f_133_57 : mFetch 133 57 = some (.getfield 31, 3, [10, 12, 0, 1346]) := by decide +kernel
theorem f_133_60 : mFetch 133 60 = some (.iload_n 1, 1, []) := by decide +kernel
theorem f_133_61 : mFetch 133 61 = some (.aaload, 1, []) := by decide +kernel
theorem f_133_62 : mFetch 133 62 = some (.iconst 1, 1, []) := by decide +kernel
theorem f_133_63 : mFetch 133 63 = some (.iaload, 1, []) := by decide +kernel
theorem f_133_64 : mFetch 133 64 = some (.isub, 1, []) := by decide +kernel
theorem f_133_65 : mFetch 133 65 = some (.invokestatic 94, 3, [182, 2, 0, 0, 922, 704]) := by decide +kernel
theorem f_133_68 : mFetch 133 68 = some (.invokestatic 99, 3, [183, 2, 0, 0, 863, 639]) := by decide +kernel
theorem f_133_71 : mFetch 133 71 = some (.iadd, 1, []) := by decide +kernel
theorem f_133_72 : mFetch 133 72 = some (.istore 4, 2, []) := by decide +kernel
theorem f_133_74 : mFetch 133 74 = some (.iload_n 2, 1, []) := by decide +kernel
theorem f_133_75 : mFetch 133 75 = some (.iload 4, 2, []) := by decide +kernel
theorem f_133_77 : mFetch 133 77 = some (.ifCond .gt 13, 3, [90]) := by decide +kernel
theorem f_133_80 : mFetch 133 80 = some (.iload 4, 2, []) := by decide +kernel
theorem f_133_82 : mFetch 133 82 = some (.ifCond .ne 12, 3, [94]) := by decide +kernel
theorem f_133_85 : mFetch 133 85 = some (.iload_n 3, 1, []) := by decide +kernel
theorem f_133_86 : mFetch 133 86 = some (.iload_n 1, 1, []) := by decide +kernel
theorem f_133_87 : mFetch 133 87 = some (.if_icmp .ge 7, 3, [94]) := by decide +kernel
theorem f_133_90 : mFetch 133 90 = some (.iconst 1, 1, []) := by decide +kernel
theorem f_133_91 : mFetch 133 91 = some (.goto 4, 3, [95]) := by decide +kernel
theorem f_133_94 : mFetch 133 94 = some (.iconst 0, 1, []) := by decide +kernel
theorem f_133_95 : mFetch 133 95 = some (.iadd, 1, []) := by decide +kernel
theorem f_133_96 : mFetch 133 96 = some (.istore_n 2, 1, []) := by decide +kernel
theorem f_133_97 : mFetch 133 97 = some (.iinc 3 1, 3, []) := by decide +kernel
theorem f_133_100 : mFetch 133 100 = some (.goto (-96), 3, [4]) := by decide +kernel
theorem f_133_103 : mFetch 133 103 = some (.iload_n 2, 1, []) := by decide +kernel
theorem f_133_104 : mFetch 133 104 = some (.ireturn, 1, [0]) := by decide +kernel
theorem b_133_0 {d : Nat} {a0 : Nat} {x1 : Int32} {w : MW} : mX d 133 0 [.ref a0, .int x1, mJ, mJ, mJ] [] w = mX d 133 4 [.ref a0, .int x1, .int (nI 0), .int (nI 0), mJ] [] w := by
  refine Eq.trans (X_iconst f_133_0 kc_i_0) ?_
  refine Eq.trans (X_istore_n (L' := [.ref a0, .int x1, .int (nI 0), mJ, mJ]) f_133_1 (Nat.le_of_ble_eq_true rfl) rfl) ?_
  refine Eq.trans (X_iconst f_133_2 kc_i_0) ?_
  refine Eq.trans (X_istore_n (L' := [.ref a0, .int x1, .int (nI 0), .int (nI 0), mJ]) f_133_3 (Nat.le_of_ble_eq_true rfl) rfl) ?_
  exact mX_mask rfl
theorem e_133 {d : Nat} {a0 : Nat} {x1 : Int32} {w : MW} : mK d 133 [.ref a0, .int x1] w = mX d 133 0 [.ref a0, .int x1, mJ, mJ, mJ] [] w := rfl
theorem b_133_4 {d : Nat} {a0 : Nat} {x1 : Int32} {x2 : Int32} {x3 : Int32} {w : MW} (h0 : mTg w a0 = 10) (h1 : mR w a0 12 = some (gR w a0 12)) (h2 : 50 ≤ mTg w (gR w a0 12) ∧ mTg w (gR w a0 12) < 55) : mX d 133 4 [.ref a0, .int x1, .int x2, .int x3, mJ] [] w = (if (nI (mLn w (gR w a0 12))) ≤ x3 then mX d 133 103 [mJ, mJ, .int x2, mJ, mJ] [] w else mX d 133 13 [.ref a0, .int x1, .int x2, .int x3, mJ] [] w) := by
  refine Eq.trans (X_st f_133_4 rfl rfl) ?_
  refine Eq.trans (X_st f_133_5 rfl rfl) ?_
  refine Eq.trans (X_getR f_133_6 h0 rfl h1) ?_
  refine Eq.trans (X_st f_133_9 rfl (if_pos h2)) ?_
  refine Eq.trans (X_br f_133_10 rfl rfl) ?_
  exact mIte_eq (mX_mask rfl) (mX_mask rfl)
theorem b_133_13 {d : Nat} {a0 : Nat} {x1 : Int32} {x2 : Int32} {x3 : Int32} {w : MW} : mX d 133 13 [.ref a0, .int x1, .int x2, .int x3, mJ] [] w = (if ¬ x3 = x1 then mX d 133 21 [.ref a0, .int x1, .int x2, .int x3, mJ] [] w else mX d 133 18 [.ref a0, .int x1, .int x2, .int x3, mJ] [] w) := by
  refine Eq.trans (X_st f_133_13 rfl rfl) ?_
  refine Eq.trans (X_st f_133_14 rfl rfl) ?_
  refine Eq.trans (X_br f_133_15 rfl rfl) ?_
  exact mIte_eq (mX_mask rfl) (mX_mask rfl)
theorem b_133_18 {d : Nat} {a0 : Nat} {x1 : Int32} {x2 : Int32} {x3 : Int32} {w : MW} : mX d 133 18 [.ref a0, .int x1, .int x2, .int x3, mJ] [] w = mX d 133 97 [.ref a0, .int x1, .int x2, .int x3, mJ] [] w := by
  refine Eq.trans (X_st f_133_18 rfl rfl) ?_
  exact mX_mask rfl
theorem b_133_21 {d : Nat} {a0 : Nat} {x1 : Nat} {x2 : Int32} {x3 : Nat} {w : MW} (h0 : mTg w a0 = 10) (h1 : mR w a0 12 = some (gR w a0 12)) (h2 : 52 ≤ mTg w (gR w a0 12) ∧ mTg w (gR w a0 12) < 55) (h3 : x3 < 2147483648) (h4 : x3 < mLn w (gR w a0 12)) (h5 : mR w (gR w a0 12) x3 = some (gR w (gR w a0 12) x3)) (h6 : mTg w (gR w (gR w a0 12) x3) = 50) (h7 : 0 < mLn w (gR w (gR w a0 12) x3)) (h8 : x1 < 2147483648) (h9 : x1 < mLn w (gR w a0 12)) (h10 : mR w (gR w a0 12) x1 = some (gR w (gR w a0 12) x1)) (h11 : mTg w (gR w (gR w a0 12) x1) = 50) (h12 : 0 < mLn w (gR w (gR w a0 12) x1)) (h13 : 1 < mLn w (gR w (gR w a0 12) x3)) (h14 : 1 < mLn w (gR w (gR w a0 12) x1)) : mX (d + 1) 133 21 [.ref a0, .int (nI x1), .int x2, .int (nI x3), mJ] [] w = mThen (mK d 182 [.int (-900 : Int32), .int ((mI w (gR w (gR w a0 12) x3) 1) - (mI w (gR w (gR w a0 12) x1) 1))] w) (fun v w9 => mX (d + 1) 133 68 [.ref a0, .int (nI x1), .int x2, .int (nI x3), mJ] (v.toList ++ [.int (nI 900), .int ((nI 1000) * ((mI w (gR w (gR w a0 12) x3) 0) - (mI w (gR w (gR w a0 12) x1) 0)))]) w9) := by
  refine Eq.trans (X_sipush f_133_21 kc_s_1000) ?_
  refine Eq.trans (X_st f_133_24 rfl rfl) ?_
  refine Eq.trans (X_getR f_133_25 h0 rfl h1) ?_
  refine Eq.trans (X_st f_133_28 rfl rfl) ?_
  refine Eq.trans (X_aald f_133_29 h2 (jnn h3) (jcl h3) h4 h5) ?_
  refine Eq.trans (X_iconst f_133_30 kc_i_0) ?_
  refine Eq.trans (X_iald f_133_31 h6 kn_0 kl_0 h7) ?_
  refine Eq.trans (X_st f_133_32 rfl rfl) ?_
  refine Eq.trans (X_getR f_133_33 h0 rfl h1) ?_
  refine Eq.trans (X_st f_133_36 rfl rfl) ?_
  refine Eq.trans (X_aald f_133_37 h2 (jnn h8) (jcl h8) h9 h10) ?_
  refine Eq.trans (X_iconst f_133_38 kc_i_0) ?_
  refine Eq.trans (X_iald f_133_39 h11 kn_0 kl_0 h12) ?_
  refine Eq.trans (X_st f_133_40 rfl rfl) ?_
  refine Eq.trans (X_st f_133_41 rfl rfl) ?_
  refine Eq.trans (X_sipush f_133_42 kc_s_900) ?_
  refine Eq.trans (X_sipush f_133_45 kc_s_m900) ?_
  refine Eq.trans (X_st f_133_48 rfl rfl) ?_
  refine Eq.trans (X_getR f_133_49 h0 rfl h1) ?_
  refine Eq.trans (X_st f_133_52 rfl rfl) ?_
  refine Eq.trans (X_aald f_133_53 h2 (jnn h3) (jcl h3) h4 h5) ?_
  refine Eq.trans (X_iconst f_133_54 kc_i_1) ?_
  refine Eq.trans (X_iald f_133_55 h6 kn_1 kl_1 h13) ?_
  refine Eq.trans (X_st f_133_56 rfl rfl) ?_
  refine Eq.trans (X_getR f_133_57 h0 rfl h1) ?_
  refine Eq.trans (X_st f_133_60 rfl rfl) ?_
  refine Eq.trans (X_aald f_133_61 h2 (jnn h8) (jcl h8) h9 h10) ?_
  refine Eq.trans (X_iconst f_133_62 kc_i_1) ?_
  refine Eq.trans (X_iald f_133_63 h11 kn_1 kl_1 h14) ?_
  refine Eq.trans (X_st f_133_64 rfl rfl) ?_
  refine Eq.trans (X_call f_133_65 (by decide) rfl rfl rfl rfl rfl rfl (Nat.le_of_ble_eq_true rfl) (Nat.le_of_ble_eq_true rfl) rfl (Nat.le_of_ble_eq_true rfl)) ?_
  exact mThen_eq fun v w9 => mX_mask rfl
theorem b_133_68 {d : Nat} {a0 : Nat} {x1 : Int32} {x2 : Int32} {x3 : Int32} {y0 : Int32} {y1 : Int32} {y2 : Int32} {w : MW} : mX (d + 1) 133 68 [.ref a0, .int x1, .int x2, .int x3, mJ] [.int y0, .int y1, .int y2] w = mThen (mK d 183 [.int y1, .int y0] w) (fun v w9 => mX (d + 1) 133 71 [.ref a0, .int x1, .int x2, .int x3, mJ] (v.toList ++ [.int y2]) w9) := by
  refine Eq.trans (X_call f_133_68 (by decide) rfl rfl rfl rfl rfl rfl (Nat.le_of_ble_eq_true rfl) (Nat.le_of_ble_eq_true rfl) rfl (Nat.le_of_ble_eq_true rfl)) ?_
  exact mThen_eq fun v w9 => mX_mask rfl
theorem b_133_71 {d : Nat} {a0 : Nat} {x1 : Int32} {x2 : Int32} {x3 : Int32} {y0 : Int32} {y1 : Int32} {w : MW} : mX d 133 71 [.ref a0, .int x1, .int x2, .int x3, mJ] [.int y0, .int y1] w = (if nI 0 < (y1 + y0) then mX d 133 90 [.ref a0, .int x1, mJ, .int x3, mJ] [.int x2] w else mX d 133 80 [.ref a0, .int x1, mJ, .int x3, .int (y1 + y0)] [.int x2] w) := by
  refine Eq.trans (X_st f_133_71 rfl rfl) ?_
  refine Eq.trans (X_istore (L' := [.ref a0, .int x1, .int x2, .int x3, .int (y1 + y0)]) f_133_72 (Nat.le_of_ble_eq_true rfl) rfl) ?_
  refine Eq.trans (X_st f_133_74 rfl rfl) ?_
  refine Eq.trans (X_st f_133_75 rfl rfl) ?_
  refine Eq.trans (X_br f_133_77 rfl rfl) ?_
  exact mIte_eq (mX_mask rfl) (mX_mask rfl)
theorem b_133_80 {d : Nat} {a0 : Nat} {x1 : Int32} {x3 : Int32} {x4 : Int32} {y0 : Int32} {w : MW} : mX d 133 80 [.ref a0, .int x1, mJ, .int x3, .int x4] [.int y0] w = (if ¬ x4 = nI 0 then mX d 133 94 [.ref a0, .int x1, mJ, .int x3, mJ] [.int y0] w else mX d 133 85 [.ref a0, .int x1, mJ, .int x3, mJ] [.int y0] w) := by
  refine Eq.trans (X_st f_133_80 rfl rfl) ?_
  refine Eq.trans (X_br f_133_82 rfl rfl) ?_
  exact mIte_eq (mX_mask rfl) (mX_mask rfl)
theorem b_133_85 {d : Nat} {a0 : Nat} {x1 : Int32} {x3 : Int32} {y0 : Int32} {w : MW} : mX d 133 85 [.ref a0, .int x1, mJ, .int x3, mJ] [.int y0] w = (if x1 ≤ x3 then mX d 133 94 [.ref a0, .int x1, mJ, .int x3, mJ] [.int y0] w else mX d 133 90 [.ref a0, .int x1, mJ, .int x3, mJ] [.int y0] w) := by
  refine Eq.trans (X_st f_133_85 rfl rfl) ?_
  refine Eq.trans (X_st f_133_86 rfl rfl) ?_
  refine Eq.trans (X_br f_133_87 rfl rfl) ?_
  exact mIte_eq (mX_mask rfl) (mX_mask rfl)
theorem b_133_90 {d : Nat} {a0 : Nat} {x1 : Int32} {x3 : Int32} {y0 : Int32} {w : MW} : mX d 133 90 [.ref a0, .int x1, mJ, .int x3, mJ] [.int y0] w = mX d 133 95 [.ref a0, .int x1, mJ, .int x3, mJ] [.int (nI 1), .int y0] w := by
  refine Eq.trans (X_iconst f_133_90 kc_i_1) ?_
  refine Eq.trans (X_st f_133_91 rfl rfl) ?_
  exact mX_mask rfl
theorem b_133_94 {d : Nat} {a0 : Nat} {x1 : Int32} {x3 : Int32} {y0 : Int32} {w : MW} : mX d 133 94 [.ref a0, .int x1, mJ, .int x3, mJ] [.int y0] w = mX d 133 95 [.ref a0, .int x1, mJ, .int x3, mJ] [.int (nI 0), .int y0] w := by
  refine Eq.trans (X_iconst f_133_94 kc_i_0) ?_
  exact mX_mask rfl
theorem b_133_95 {d : Nat} {a0 : Nat} {x1 : Int32} {x3 : Int32} {y0 : Int32} {y1 : Int32} {w : MW} : mX d 133 95 [.ref a0, .int x1, mJ, .int x3, mJ] [.int y0, .int y1] w = mX d 133 97 [.ref a0, .int x1, .int (y1 + y0), .int x3, mJ] [] w := by
  refine Eq.trans (X_st f_133_95 rfl rfl) ?_
  refine Eq.trans (X_istore_n (L' := [.ref a0, .int x1, .int (y1 + y0), .int x3, mJ]) f_133_96 (Nat.le_of_ble_eq_true rfl) rfl) ?_
  exact mX_mask rfl
theorem b_133_97 {d : Nat} {a0 : Nat} {x1 : Int32} {x2 : Int32} {x3 : Int32} {w : MW} : mX d 133 97 [.ref a0, .int x1, .int x2, .int x3, mJ] [] w = mX d 133 4 [.ref a0, .int x1, .int x2, .int (x3 + (nI 1)), mJ] [] w := by
  refine Eq.trans (X_iinc f_133_97 kc_i_1 rfl rfl) ?_
  refine Eq.trans (X_st f_133_100 rfl rfl) ?_
  exact mX_mask rfl
theorem b_133_103 {d : Nat} {x2 : Int32} {w : MW} : mX d 133 103 [mJ, mJ, .int x2, mJ, mJ] [] w = some (.inl (some (.int x2)), w) := by
  refine Eq.trans (X_st f_133_103 rfl rfl) ?_
  exact X_ireturn f_133_104 rfl
/-! BeeTurnpikeLaw$Sim holds ([I)Z -/
theorem f_134_0 : mFetch 134 0 = some (.aload_n 1, 1, []) := by decide +kernel
theorem f_134_1 : mFetch 134 1 = some (.iconst 3, 1, []) := by decide +kernel
theorem f_134_2 : mFetch 134 2 = some (.iaload, 1, []) := by decide +kernel
theorem f_134_3 : mFetch 134 3 = some (.istore_n 2, 1, []) := by decide +kernel
theorem f_134_4 : mFetch 134 4 = some (.aload_n 1, 1, []) := by decide +kernel
theorem f_134_5 : mFetch 134 5 = some (.iconst 4, 1, []) := by decide +kernel
theorem f_134_6 : mFetch 134 6 = some (.iaload, 1, []) := by decide +kernel
theorem f_134_7 : mFetch 134 7 = some (.istore_n 3, 1, []) := by decide +kernel
theorem f_134_8 : mFetch 134 8 = some (.aload_n 1, 1, []) := by decide +kernel
theorem f_134_9 : mFetch 134 9 = some (.iconst 2, 1, []) := by decide +kernel
theorem f_134_10 : mFetch 134 10 = some (.iaload, 1, []) := by decide +kernel
theorem f_134_11 : mFetch 134 11 = some (.tableswitch 206 0 7 #[45, 60, 78, 96, 110, 135, 167, 204], 45, [217, 56, 71, 89, 107, 121, 146, 178, 215]) := by decide +kernel
theorem f_134_56 : mFetch 134 56 = some (.aload_n 0, 1, []) := by decide +kernel
theorem f_134_57 : mFetch 134 57 = some (.iload_n 3, 1, []) := by decide +kernel
theorem f_134_58 : mFetch 134 58 = some (.invokevirtual 102, 3, [131, 2, 2, 10, 839, 840, 841]) := by decide +kernel
theorem f_134_61 : mFetch 134 61 = some (.iload_n 2, 1, []) := by decide +kernel
theorem f_134_62 : mFetch 134 62 = some (.if_icmp .le 7, 3, [69]) := by decide +kernel
theorem f_134_65 : mFetch 134 65 = some (.iconst 1, 1, []) := by decide +kernel
theorem f_134_66 : mFetch 134 66 = some (.goto 4, 3, [70]) := by decide +kernel
theorem f_134_69 : mFetch 134 69 = some (.iconst 0, 1, []) := by decide +kernel
theorem f_134_70 : mFetch 134 70 = some (.ireturn, 1, [2]) := by decide +kernel
theorem f_134_71 : mFetch 134 71 = some (.aload_n 0, 1, []) := by decide +kernel
theorem f_134_72 : mFetch 134 72 = some (.getfield 31, 3, [10, 12, 0, 1346]) := by decide +kernel
theorem f_134_75 : mFetch 134 75 = some (.iload_n 3, 1, []) := by decide +kernel
theorem f_134_76 : mFetch 134 76 = some (.aaload, 1, []) := by decide +kernel
theorem f_134_77 : mFetch 134 77 = some (.iconst 1, 1, []) := by decide +kernel
theorem f_134_78 : mFetch 134 78 = some (.iaload, 1, []) := by decide +kernel
theorem f_134_79 : mFetch 134 79 = some (.iload_n 2, 1, []) := by decide +kernel
theorem f_134_80 : mFetch 134 80 = some (.if_icmp .lt 7, 3, [87]) := by decide +kernel
theorem f_134_83 : mFetch 134 83 = some (.iconst 1, 1, []) := by decide +kernel
theorem f_134_84 : mFetch 134 84 = some (.goto 4, 3, [88]) := by decide +kernel
theorem f_134_87 : mFetch 134 87 = some (.iconst 0, 1, []) := by decide +kernel
theorem f_134_88 : mFetch 134 88 = some (.ireturn, 1, [2]) := by decide +kernel
theorem f_134_89 : mFetch 134 89 = some (.aload_n 0, 1, []) := by decide +kernel
theorem f_134_90 : mFetch 134 90 = some (.getfield 31, 3, [10, 12, 0, 1346]) := by decide +kernel
theorem f_134_93 : mFetch 134 93 = some (.iload_n 3, 1, []) := by decide +kernel
theorem f_134_94 : mFetch 134 94 = some (.aaload, 1, []) := by decide +kernel
theorem f_134_95 : mFetch 134 95 = some (.iconst 2, 1, []) := by decide +kernel
theorem f_134_96 : mFetch 134 96 = some (.iaload, 1, []) := by decide +kernel
theorem f_134_97 : mFetch 134 97 = some (.iconst 1, 1, []) := by decide +kernel
theorem f_134_98 : mFetch 134 98 = some (.if_icmp .ne 7, 3, [105]) := by decide +kernel
theorem f_134_101 : mFetch 134 101 = some (.iconst 1, 1, []) := by decide +kernel
theorem f_134_102 : mFetch 134 102 = some (.goto 4, 3, [106]) := by decide +kernel
theorem f_134_105 : mFetch 134 105 = some (.iconst 0, 1, []) := by decide +kernel
theorem f_134_106 : mFetch 134 106 = some (.ireturn, 1, [2]) := by decide +kernel
theorem f_134_107 : mFetch 134 107 = some (.aload_n 0, 1, []) := by decide +kernel
theorem f_134_108 : mFetch 134 108 = some (.getfield 56, 3, [10, 0, 0, 1328]) := by decide +kernel
theorem f_134_111 : mFetch 134 111 = some (.iload_n 2, 1, []) := by decide +kernel
theorem f_134_112 : mFetch 134 112 = some (.if_icmp .le 7, 3, [119]) := by decide +kernel
theorem f_134_115 : mFetch 134 115 = some (.iconst 1, 1, []) := by decide +kernel
theorem f_134_116 : mFetch 134 116 = some (.goto 4, 3, [120]) := by decide +kernel
theorem f_134_119 : mFetch 134 119 = some (.iconst 0, 1, []) := by decide +kernel
theorem f_134_120 : mFetch 134 120 = some (.ireturn, 1, [2]) := by decide +kernel
theorem f_134_121 : mFetch 134 121 = some (.aload_n 0, 1, []) := by decide +kernel
theorem f_134_122 : mFetch 134 122 = some (.invokevirtual 105, 3, [132, 1, 2, 10, 859, 860, 861]) := by decide +kernel
theorem f_134_125 : mFetch 134 125 = some (.iload_n 2, 1, []) := by decide +kernel
theorem f_134_126 : mFetch 134 126 = some (.if_icmp .gt 18, 3, [144]) := by decide +kernel
theorem f_134_129 : mFetch 134 129 = some (.aload_n 0, 1, []) := by decide +kernel
theorem f_134_130 : mFetch 134 130 = some (.getfield 31, 3, [10, 12, 0, 1346]) := by decide +kernel
theorem f_134_133 : mFetch 134 133 = some (.iload_n 3, 1, []) := by decide +kernel
theorem f_134_134 : mFetch 134 134 = some (.aaload, 1, []) := by decide +kernel
theorem f_134_135 : mFetch 134 135 = some (.iconst 3, 1, []) := by decide +kernel
theorem f_134_136 : mFetch 134 136 = some (.iaload, 1, []) := by decide +kernel
theorem f_134_137 : mFetch 134 137 = some (.ifCond .le 7, 3, [144]) := by decide +kernel
theorem f_134_140 : mFetch 134 140 = some (.iconst 1, 1, []) := by decide +kernel
theorem f_134_141 : mFetch 134 141 = some (.goto 4, 3, [145]) := by decide +kernel
theorem f_134_144 : mFetch 134 144 = some (.iconst 0, 1, []) := by decide +kernel
theorem f_134_145 : mFetch 134 145 = some (.ireturn, 1, [2]) := by decide +kernel
theorem f_134_146 : mFetch 134 146 = some (.aload_n 0, 1, []) := by decide +kernel
theorem f_134_147 : mFetch 134 147 = some (.getfield 7, 3, [10, 1, 0, 1329]) := by decide +kernel
theorem f_134_150 : mFetch 134 150 = some (.ifCond .lt 22, 3, [172]) := by decide +kernel
theorem f_134_153 : mFetch 134 153 = some (.aload_n 0, 1, []) := by decide +kernel
theorem f_134_154 : mFetch 134 154 = some (.getfield 65, 3, [10, 4, 0, 1334]) := by decide +kernel
theorem f_134_157 : mFetch 134 157 = some (.iload_n 3, 1, []) := by decide +kernel
theorem f_134_158 : mFetch 134 158 = some (.if_icmp .ne 14, 3, [172]) := by decide +kernel
theorem f_134_161 : mFetch 134 161 = some (.aload_n 0, 1, []) := by decide +kernel
theorem f_134_162 : mFetch 134 162 = some (.aload_n 1, 1, []) := by decide +kernel
theorem f_134_163 : mFetch 134 163 = some (.iconst 5, 1, []) := by decide +kernel
theorem f_134_164 : mFetch 134 164 = some (.iaload, 1, []) := by decide +kernel
theorem f_134_165 : mFetch 134 165 = some (.invokevirtual 87, 3, [128, 2, 2, 10, 847, 848, 849]) := by decide +kernel
theorem f_134_168 : mFetch 134 168 = some (.iload_n 2, 1, []) := by decide +kernel
theorem f_134_169 : mFetch 134 169 = some (.if_icmp .le 7, 3, [176]) := by decide +kernel
theorem f_134_172 : mFetch 134 172 = some (.iconst 1, 1, []) := by decide +kernel
theorem f_134_173 : mFetch 134 173 = some (.goto 4, 3, [177]) := by decide +kernel
theorem f_134_176 : mFetch 134 176 = some (.iconst 0, 1, []) := by decide +kernel
theorem f_134_177 : mFetch 134 177 = some (.ireturn, 1, [2]) := by decide +kernel
theorem f_134_178 : mFetch 134 178 = some (.aload_n 0, 1, []) := by decide +kernel
theorem f_134_179 : mFetch 134 179 = some (.getfield 31, 3, [10, 12, 0, 1346]) := by decide +kernel
theorem f_134_182 : mFetch 134 182 = some (.iload_n 3, 1, []) := by decide +kernel
theorem f_134_183 : mFetch 134 183 = some (.aaload, 1, []) := by decide +kernel
theorem f_134_184 : mFetch 134 184 = some (.iconst 0, 1, []) := by decide +kernel
theorem f_134_185 : mFetch 134 185 = some (.iaload, 1, []) := by decide +kernel
theorem f_134_186 : mFetch 134 186 = some (.iconst 1, 1, []) := by decide +kernel
theorem f_134_187 : mFetch 134 187 = some (.if_icmp .ne 26, 3, [213]) := by decide +kernel
theorem f_134_190 : mFetch 134 190 = some (.aload_n 0, 1, []) := by decide +kernel
theorem f_134_191 : mFetch 134 191 = some (.iload_n 3, 1, []) := by decide +kernel
theorem f_134_192 : mFetch 134 192 = some (.invokevirtual 102, 3, [131, 2, 2, 10, 839, 840, 841]) := by decide +kernel
theorem f_134_195 : mFetch 134 195 = some (.aload_n 0, 1, []) := by decide +kernel
theorem f_134_196 : mFetch 134 196 = some (.aload_n 1, 1, []) := by decide +kernel
theorem f_134_197 : mFetch 134 197 = some (.iconst 5, 1, []) := by decide +kernel
theorem f_134_198 : mFetch 134 198 = some (.iaload, 1, []) := by decide +kernel
theorem f_134_199 : mFetch 134 199 = some (.invokevirtual 87, 3, [128, 2, 2, 10, 847, 848, 849]) := by decide +kernel
theorem f_134_202 : mFetch 134 202 = some (.iconst 2, 1, []) := by decide +kernel
theorem f_134_203 : mFetch 134 203 = some (.idiv, 1, []) := by decide +kernel
theorem f_134_204 : mFetch 134 204 = some (.isub, 1, []) := by decide +kernel
theorem f_134_205 : mFetch 134 205 = some (.iload_n 2, 1, []) := by decide +kernel
theorem f_134_206 : mFetch 134 206 = some (.if_icmp .ge 7, 3, [213]) := by decide +kernel
theorem f_134_209 : mFetch 134 209 = some (.iconst 1, 1, []) := by decide +kernel
theorem f_134_210 : mFetch 134 210 = some (.goto 4, 3, [214]) := by decide +kernel
theorem f_134_213 : mFetch 134 213 = some (.iconst 0, 1, []) := by decide +kernel
theorem f_134_214 : mFetch 134 214 = some (.ireturn, 1, [2]) := by decide +kernel
theorem f_134_215 : mFetch 134 215 = some (.iconst 1, 1, []) := by decide +kernel
theorem f_134_216 : mFetch 134 216 = some (.ireturn, 1, [2]) := by decide +kernel
theorem f_134_217 : mFetch 134 217 = some (.aload_n 0, 1, []) := by decide +kernel
theorem f_134_218 : mFetch 134 218 = some (.getfield 31, 3, [10, 12, 0, 1346]) := by decide +kernel
theorem f_134_221 : mFetch 134 221 = some (.iload_n 3, 1, []) := by decide +kernel
theorem f_134_222 : mFetch 134 222 = some (.aaload, 1, []) := by decide +kernel
theorem f_134_223 : mFetch 134 223 = some (.iconst 1, 1, []) := by decide +kernel
theorem f_134_224 : mFetch 134 224 = some (.iaload, 1, []) := by decide +kernel
theorem f_134_225 : mFetch 134 225 = some (.iload_n 2, 1, []) := by decide +kernel
theorem f_134_226 : mFetch 134 226 = some (.invokestatic 99, 3, [183, 2, 0, 0, 863, 639]) := by decide +kernel
theorem f_134_229 : mFetch 134 229 = some (.iconst 2, 1, []) := by decide +kernel
theorem f_134_230 : mFetch 134 230 = some (.imul, 1, []) := by decide +kernel
theorem f_134_231 : mFetch 134 231 = some (.aload_n 0, 1, []) := by decide +kernel
theorem f_134_232 : mFetch 134 232 = some (.getfield 56, 3, [10, 0, 0, 1328]) := by decide +kernel
theorem f_134_235 : mFetch 134 235 = some (.iconst 3, 1, []) := by decide +kernel
theorem f_134_236 : mFetch 134 236 = some (.idiv, 1, []) := by decide +kernel
theorem f_134_237 : mFetch 134 237 = some (.if_icmp .le 7, 3, [244]) := by decide +kernel
theorem f_134_240 : mFetch 134 240 = some (.iconst 1, 1, []) := by decide +kernel
theorem f_134_241 : mFetch 134 241 = some (.goto 4, 3, [245]) := by decide +kernel
theorem f_134_244 : mFetch 134 244 = some (.iconst 0, 1, []) := by decide +kernel
theorem f_134_245 : mFetch 134 245 = some (.ireturn, 1, [2]) := by decide +kernel
theorem s_134_0_0 {d : Nat} {a0 : Nat} {a1 : Nat} {w : MW} (h0 : mTg w a1 = 50) (h1 : 3 < mLn w a1) (h2 : 4 < mLn w a1) (h3 : 2 < mLn w a1) (h4 : (mI w a1 2) = (nI 0)) : mX d 134 0 [.ref a0, .ref a1, mJ, mJ] [] w = mX d 134 56 [.ref a0, mJ, .int (mI w a1 3), .int (mI w a1 4)] [] w := by
  refine Eq.trans (X_st f_134_0 rfl rfl) ?_
  refine Eq.trans (X_iconst f_134_1 kc_i_3) ?_
  refine Eq.trans (X_iald f_134_2 h0 kn_3 kl_3 h1) ?_
  refine Eq.trans (X_istore_n (L' := [.ref a0, .ref a1, .int (mI w a1 3), mJ]) f_134_3 (Nat.le_of_ble_eq_true rfl) rfl) ?_
  refine Eq.trans (X_st f_134_4 rfl rfl) ?_
  refine Eq.trans (X_iconst f_134_5 kc_i_4) ?_
  refine Eq.trans (X_iald f_134_6 h0 kn_4 kl_4 h2) ?_
  refine Eq.trans (X_istore_n (L' := [.ref a0, .ref a1, .int (mI w a1 3), .int (mI w a1 4)]) f_134_7 (Nat.le_of_ble_eq_true rfl) rfl) ?_
  refine Eq.trans (X_st f_134_8 rfl rfl) ?_
  refine Eq.trans (X_iconst f_134_9 kc_i_2) ?_
  refine Eq.trans (X_iald f_134_10 h0 kn_2 kl_2 h3) ?_
  refine Eq.trans (X_sw f_134_11 rfl (congrArg Value.int h4) rfl) ?_
  exact mX_mask rfl
theorem s_134_0_1 {d : Nat} {a0 : Nat} {a1 : Nat} {w : MW} (h0 : mTg w a1 = 50) (h1 : 3 < mLn w a1) (h2 : 4 < mLn w a1) (h3 : 2 < mLn w a1) (h4 : (mI w a1 2) = (nI 1)) : mX d 134 0 [.ref a0, .ref a1, mJ, mJ] [] w = mX d 134 71 [.ref a0, mJ, .int (mI w a1 3), .int (mI w a1 4)] [] w := by
  refine Eq.trans (X_st f_134_0 rfl rfl) ?_
  refine Eq.trans (X_iconst f_134_1 kc_i_3) ?_
  refine Eq.trans (X_iald f_134_2 h0 kn_3 kl_3 h1) ?_
  refine Eq.trans (X_istore_n (L' := [.ref a0, .ref a1, .int (mI w a1 3), mJ]) f_134_3 (Nat.le_of_ble_eq_true rfl) rfl) ?_
  refine Eq.trans (X_st f_134_4 rfl rfl) ?_
  refine Eq.trans (X_iconst f_134_5 kc_i_4) ?_
  refine Eq.trans (X_iald f_134_6 h0 kn_4 kl_4 h2) ?_
  refine Eq.trans (X_istore_n (L' := [.ref a0, .ref a1, .int (mI w a1 3), .int (mI w a1 4)]) f_134_7 (Nat.le_of_ble_eq_true rfl) rfl) ?_
  refine Eq.trans (X_st f_134_8 rfl rfl) ?_
  refine Eq.trans (X_iconst f_134_9 kc_i_2) ?_
  refine Eq.trans (X_iald f_134_10 h0 kn_2 kl_2 h3) ?_
  refine Eq.trans (X_sw f_134_11 rfl (congrArg Value.int h4) rfl) ?_
  exact mX_mask rfl
theorem s_134_0_2 {d : Nat} {a0 : Nat} {a1 : Nat} {w : MW} (h0 : mTg w a1 = 50) (h1 : 3 < mLn w a1) (h2 : 4 < mLn w a1) (h3 : 2 < mLn w a1) (h4 : (mI w a1 2) = (nI 2)) : mX d 134 0 [.ref a0, .ref a1, mJ, mJ] [] w = mX d 134 89 [.ref a0, mJ, mJ, .int (mI w a1 4)] [] w := by
  refine Eq.trans (X_st f_134_0 rfl rfl) ?_
  refine Eq.trans (X_iconst f_134_1 kc_i_3) ?_
  refine Eq.trans (X_iald f_134_2 h0 kn_3 kl_3 h1) ?_
  refine Eq.trans (X_istore_n (L' := [.ref a0, .ref a1, .int (mI w a1 3), mJ]) f_134_3 (Nat.le_of_ble_eq_true rfl) rfl) ?_
  refine Eq.trans (X_st f_134_4 rfl rfl) ?_
  refine Eq.trans (X_iconst f_134_5 kc_i_4) ?_
  refine Eq.trans (X_iald f_134_6 h0 kn_4 kl_4 h2) ?_
  refine Eq.trans (X_istore_n (L' := [.ref a0, .ref a1, .int (mI w a1 3), .int (mI w a1 4)]) f_134_7 (Nat.le_of_ble_eq_true rfl) rfl) ?_
  refine Eq.trans (X_st f_134_8 rfl rfl) ?_
  refine Eq.trans (X_iconst f_134_9 kc_i_2) ?_
  refine Eq.trans (X_iald f_134_10 h0 kn_2 kl_2 h3) ?_
  refine Eq.trans (X_sw f_134_11 rfl (congrArg Value.int h4) rfl) ?_
  exact mX_mask rfl
theorem s_134_0_3 {d : Nat} {a0 : Nat} {a1 : Nat} {w : MW} (h0 : mTg w a1 = 50) (h1 : 3 < mLn w a1) (h2 : 4 < mLn w a1) (h3 : 2 < mLn w a1) (h4 : (mI w a1 2) = (nI 3)) : mX d 134 0 [.ref a0, .ref a1, mJ, mJ] [] w = mX d 134 107 [.ref a0, mJ, .int (mI w a1 3), mJ] [] w := by
  refine Eq.trans (X_st f_134_0 rfl rfl) ?_
  refine Eq.trans (X_iconst f_134_1 kc_i_3) ?_
  refine Eq.trans (X_iald f_134_2 h0 kn_3 kl_3 h1) ?_
  refine Eq.trans (X_istore_n (L' := [.ref a0, .ref a1, .int (mI w a1 3), mJ]) f_134_3 (Nat.le_of_ble_eq_true rfl) rfl) ?_
  refine Eq.trans (X_st f_134_4 rfl rfl) ?_
  refine Eq.trans (X_iconst f_134_5 kc_i_4) ?_
  refine Eq.trans (X_iald f_134_6 h0 kn_4 kl_4 h2) ?_
  refine Eq.trans (X_istore_n (L' := [.ref a0, .ref a1, .int (mI w a1 3), .int (mI w a1 4)]) f_134_7 (Nat.le_of_ble_eq_true rfl) rfl) ?_
  refine Eq.trans (X_st f_134_8 rfl rfl) ?_
  refine Eq.trans (X_iconst f_134_9 kc_i_2) ?_
  refine Eq.trans (X_iald f_134_10 h0 kn_2 kl_2 h3) ?_
  refine Eq.trans (X_sw f_134_11 rfl (congrArg Value.int h4) rfl) ?_
  exact mX_mask rfl
theorem s_134_0_4 {d : Nat} {a0 : Nat} {a1 : Nat} {w : MW} (h0 : mTg w a1 = 50) (h1 : 3 < mLn w a1) (h2 : 4 < mLn w a1) (h3 : 2 < mLn w a1) (h4 : (mI w a1 2) = (nI 4)) : mX d 134 0 [.ref a0, .ref a1, mJ, mJ] [] w = mX d 134 121 [.ref a0, mJ, .int (mI w a1 3), .int (mI w a1 4)] [] w := by
  refine Eq.trans (X_st f_134_0 rfl rfl) ?_
  refine Eq.trans (X_iconst f_134_1 kc_i_3) ?_
  refine Eq.trans (X_iald f_134_2 h0 kn_3 kl_3 h1) ?_
  refine Eq.trans (X_istore_n (L' := [.ref a0, .ref a1, .int (mI w a1 3), mJ]) f_134_3 (Nat.le_of_ble_eq_true rfl) rfl) ?_
  refine Eq.trans (X_st f_134_4 rfl rfl) ?_
  refine Eq.trans (X_iconst f_134_5 kc_i_4) ?_
  refine Eq.trans (X_iald f_134_6 h0 kn_4 kl_4 h2) ?_
  refine Eq.trans (X_istore_n (L' := [.ref a0, .ref a1, .int (mI w a1 3), .int (mI w a1 4)]) f_134_7 (Nat.le_of_ble_eq_true rfl) rfl) ?_
  refine Eq.trans (X_st f_134_8 rfl rfl) ?_
  refine Eq.trans (X_iconst f_134_9 kc_i_2) ?_
  refine Eq.trans (X_iald f_134_10 h0 kn_2 kl_2 h3) ?_
  refine Eq.trans (X_sw f_134_11 rfl (congrArg Value.int h4) rfl) ?_
  exact mX_mask rfl
theorem s_134_0_5 {d : Nat} {a0 : Nat} {a1 : Nat} {w : MW} (h0 : mTg w a1 = 50) (h1 : 3 < mLn w a1) (h2 : 4 < mLn w a1) (h3 : 2 < mLn w a1) (h4 : (mI w a1 2) = (nI 5)) : mX d 134 0 [.ref a0, .ref a1, mJ, mJ] [] w = mX d 134 146 [.ref a0, .ref a1, .int (mI w a1 3), .int (mI w a1 4)] [] w := by
  refine Eq.trans (X_st f_134_0 rfl rfl) ?_
  refine Eq.trans (X_iconst f_134_1 kc_i_3) ?_
  refine Eq.trans (X_iald f_134_2 h0 kn_3 kl_3 h1) ?_
  refine Eq.trans (X_istore_n (L' := [.ref a0, .ref a1, .int (mI w a1 3), mJ]) f_134_3 (Nat.le_of_ble_eq_true rfl) rfl) ?_
  refine Eq.trans (X_st f_134_4 rfl rfl) ?_
  refine Eq.trans (X_iconst f_134_5 kc_i_4) ?_
  refine Eq.trans (X_iald f_134_6 h0 kn_4 kl_4 h2) ?_
  refine Eq.trans (X_istore_n (L' := [.ref a0, .ref a1, .int (mI w a1 3), .int (mI w a1 4)]) f_134_7 (Nat.le_of_ble_eq_true rfl) rfl) ?_
  refine Eq.trans (X_st f_134_8 rfl rfl) ?_
  refine Eq.trans (X_iconst f_134_9 kc_i_2) ?_
  refine Eq.trans (X_iald f_134_10 h0 kn_2 kl_2 h3) ?_
  refine Eq.trans (X_sw f_134_11 rfl (congrArg Value.int h4) rfl) ?_
  exact mX_mask rfl
theorem s_134_0_6 {d : Nat} {a0 : Nat} {a1 : Nat} {w : MW} (h0 : mTg w a1 = 50) (h1 : 3 < mLn w a1) (h2 : 4 < mLn w a1) (h3 : 2 < mLn w a1) (h4 : (mI w a1 2) = (nI 6)) : mX d 134 0 [.ref a0, .ref a1, mJ, mJ] [] w = mX d 134 178 [.ref a0, .ref a1, .int (mI w a1 3), .int (mI w a1 4)] [] w := by
  refine Eq.trans (X_st f_134_0 rfl rfl) ?_
  refine Eq.trans (X_iconst f_134_1 kc_i_3) ?_
  refine Eq.trans (X_iald f_134_2 h0 kn_3 kl_3 h1) ?_
  refine Eq.trans (X_istore_n (L' := [.ref a0, .ref a1, .int (mI w a1 3), mJ]) f_134_3 (Nat.le_of_ble_eq_true rfl) rfl) ?_
  refine Eq.trans (X_st f_134_4 rfl rfl) ?_
  refine Eq.trans (X_iconst f_134_5 kc_i_4) ?_
  refine Eq.trans (X_iald f_134_6 h0 kn_4 kl_4 h2) ?_
  refine Eq.trans (X_istore_n (L' := [.ref a0, .ref a1, .int (mI w a1 3), .int (mI w a1 4)]) f_134_7 (Nat.le_of_ble_eq_true rfl) rfl) ?_
  refine Eq.trans (X_st f_134_8 rfl rfl) ?_
  refine Eq.trans (X_iconst f_134_9 kc_i_2) ?_
  refine Eq.trans (X_iald f_134_10 h0 kn_2 kl_2 h3) ?_
  refine Eq.trans (X_sw f_134_11 rfl (congrArg Value.int h4) rfl) ?_
  exact mX_mask rfl
theorem s_134_0_7 {d : Nat} {a0 : Nat} {a1 : Nat} {w : MW} (h0 : mTg w a1 = 50) (h1 : 3 < mLn w a1) (h2 : 4 < mLn w a1) (h3 : 2 < mLn w a1) (h4 : (mI w a1 2) = (nI 7)) : mX d 134 0 [.ref a0, .ref a1, mJ, mJ] [] w = mX d 134 215 [mJ, mJ, mJ, mJ] [] w := by
  refine Eq.trans (X_st f_134_0 rfl rfl) ?_
  refine Eq.trans (X_iconst f_134_1 kc_i_3) ?_
  refine Eq.trans (X_iald f_134_2 h0 kn_3 kl_3 h1) ?_
  refine Eq.trans (X_istore_n (L' := [.ref a0, .ref a1, .int (mI w a1 3), mJ]) f_134_3 (Nat.le_of_ble_eq_true rfl) rfl) ?_
  refine Eq.trans (X_st f_134_4 rfl rfl) ?_
  refine Eq.trans (X_iconst f_134_5 kc_i_4) ?_
  refine Eq.trans (X_iald f_134_6 h0 kn_4 kl_4 h2) ?_
  refine Eq.trans (X_istore_n (L' := [.ref a0, .ref a1, .int (mI w a1 3), .int (mI w a1 4)]) f_134_7 (Nat.le_of_ble_eq_true rfl) rfl) ?_
  refine Eq.trans (X_st f_134_8 rfl rfl) ?_
  refine Eq.trans (X_iconst f_134_9 kc_i_2) ?_
  refine Eq.trans (X_iald f_134_10 h0 kn_2 kl_2 h3) ?_
  refine Eq.trans (X_sw f_134_11 rfl (congrArg Value.int h4) rfl) ?_
  exact mX_mask rfl
theorem s_134_0_d {d : Nat} {a0 : Nat} {a1 : Nat} {w : MW} (h0 : mTg w a1 = 50) (h1 : 3 < mLn w a1) (h2 : 4 < mLn w a1) (h3 : 2 < mLn w a1) (h4 : ((mI w a1 2)).toInt < 0 ∨ 7 < ((mI w a1 2)).toInt) : mX d 134 0 [.ref a0, .ref a1, mJ, mJ] [] w = mX d 134 217 [.ref a0, mJ, .int (mI w a1 3), .int (mI w a1 4)] [] w := by
  refine Eq.trans (X_st f_134_0 rfl rfl) ?_
  refine Eq.trans (X_iconst f_134_1 kc_i_3) ?_
  refine Eq.trans (X_iald f_134_2 h0 kn_3 kl_3 h1) ?_
  refine Eq.trans (X_istore_n (L' := [.ref a0, .ref a1, .int (mI w a1 3), mJ]) f_134_3 (Nat.le_of_ble_eq_true rfl) rfl) ?_
  refine Eq.trans (X_st f_134_4 rfl rfl) ?_
  refine Eq.trans (X_iconst f_134_5 kc_i_4) ?_
  refine Eq.trans (X_iald f_134_6 h0 kn_4 kl_4 h2) ?_
  refine Eq.trans (X_istore_n (L' := [.ref a0, .ref a1, .int (mI w a1 3), .int (mI w a1 4)]) f_134_7 (Nat.le_of_ble_eq_true rfl) rfl) ?_
  refine Eq.trans (X_st f_134_8 rfl rfl) ?_
  refine Eq.trans (X_iconst f_134_9 kc_i_2) ?_
  refine Eq.trans (X_iald f_134_10 h0 kn_2 kl_2 h3) ?_
  refine Eq.trans (X_swD f_134_11 h4 rfl) ?_
  exact mX_mask rfl
theorem e_134 {d : Nat} {a0 : Nat} {a1 : Nat} {w : MW} : mK d 134 [.ref a0, .ref a1] w = mX d 134 0 [.ref a0, .ref a1, mJ, mJ] [] w := rfl
theorem b_134_56 {d : Nat} {a0 : Nat} {x2 : Int32} {x3 : Int32} {w : MW} (h0 : mTg w a0 = 10) : mX (d + 1) 134 56 [.ref a0, mJ, .int x2, .int x3] [] w = mThen (mK d 131 [.ref a0, .int x3] w) (fun v w9 => mX (d + 1) 134 61 [mJ, mJ, .int x2, mJ] (v.toList ++ []) w9) := by
  refine Eq.trans (X_st f_134_56 rfl rfl) ?_
  refine Eq.trans (X_st f_134_57 rfl rfl) ?_
  refine Eq.trans (X_call f_134_58 (by decide) rfl rfl rfl rfl rfl rfl (Nat.le_of_ble_eq_true rfl) (Nat.le_of_ble_eq_true rfl) (decide_eq_true h0) (Nat.le_of_ble_eq_true rfl)) ?_
  exact mThen_eq fun v w9 => mX_mask rfl
theorem b_134_61 {d : Nat} {x2 : Int32} {y0 : Int32} {w : MW} : mX d 134 61 [mJ, mJ, .int x2, mJ] [.int y0] w = (if y0 ≤ x2 then mX d 134 69 [mJ, mJ, mJ, mJ] [] w else mX d 134 65 [mJ, mJ, mJ, mJ] [] w) := by
  refine Eq.trans (X_st f_134_61 rfl rfl) ?_
  refine Eq.trans (X_br f_134_62 rfl rfl) ?_
  exact mIte_eq (mX_mask rfl) (mX_mask rfl)
theorem b_134_65 {d : Nat} {w : MW} : mX d 134 65 [mJ, mJ, mJ, mJ] [] w = mX d 134 70 [mJ, mJ, mJ, mJ] [.int (nI 1)] w := by
  refine Eq.trans (X_iconst f_134_65 kc_i_1) ?_
  refine Eq.trans (X_st f_134_66 rfl rfl) ?_
  exact mX_mask rfl
theorem b_134_69 {d : Nat} {w : MW} : mX d 134 69 [mJ, mJ, mJ, mJ] [] w = mX d 134 70 [mJ, mJ, mJ, mJ] [.int (nI 0)] w := by
  refine Eq.trans (X_iconst f_134_69 kc_i_0) ?_
  exact mX_mask rfl
theorem b_134_70 {d : Nat} {y0 : Int32} {w : MW} (h0 : mRk 2 y0 = true) : mX d 134 70 [mJ, mJ, mJ, mJ] [.int y0] w = some (.inl (some (.int y0)), w) := by
  exact X_ireturn f_134_70 h0
theorem b_134_71 {d : Nat} {a0 : Nat} {x2 : Int32} {x3 : Nat} {w : MW} (h0 : mTg w a0 = 10) (h1 : mR w a0 12 = some (gR w a0 12)) (h2 : 52 ≤ mTg w (gR w a0 12) ∧ mTg w (gR w a0 12) < 55) (h3 : x3 < 2147483648) (h4 : x3 < mLn w (gR w a0 12)) (h5 : mR w (gR w a0 12) x3 = some (gR w (gR w a0 12) x3)) (h6 : mTg w (gR w (gR w a0 12) x3) = 50) (h7 : 1 < mLn w (gR w (gR w a0 12) x3)) : mX d 134 71 [.ref a0, mJ, .int x2, .int (nI x3)] [] w = (if (mI w (gR w (gR w a0 12) x3) 1) < x2 then mX d 134 87 [mJ, mJ, mJ, mJ] [] w else mX d 134 83 [mJ, mJ, mJ, mJ] [] w) := by
  refine Eq.trans (X_st f_134_71 rfl rfl) ?_
  refine Eq.trans (X_getR f_134_72 h0 rfl h1) ?_
  refine Eq.trans (X_st f_134_75 rfl rfl) ?_
  refine Eq.trans (X_aald f_134_76 h2 (jnn h3) (jcl h3) h4 h5) ?_
  refine Eq.trans (X_iconst f_134_77 kc_i_1) ?_
  refine Eq.trans (X_iald f_134_78 h6 kn_1 kl_1 h7) ?_
  refine Eq.trans (X_st f_134_79 rfl rfl) ?_
  refine Eq.trans (X_br f_134_80 rfl rfl) ?_
  exact mIte_eq (mX_mask rfl) (mX_mask rfl)
theorem b_134_83 {d : Nat} {w : MW} : mX d 134 83 [mJ, mJ, mJ, mJ] [] w = mX d 134 88 [mJ, mJ, mJ, mJ] [.int (nI 1)] w := by
  refine Eq.trans (X_iconst f_134_83 kc_i_1) ?_
  refine Eq.trans (X_st f_134_84 rfl rfl) ?_
  exact mX_mask rfl
theorem b_134_87 {d : Nat} {w : MW} : mX d 134 87 [mJ, mJ, mJ, mJ] [] w = mX d 134 88 [mJ, mJ, mJ, mJ] [.int (nI 0)] w := by
  refine Eq.trans (X_iconst f_134_87 kc_i_0) ?_
  exact mX_mask rfl
theorem b_134_88 {d : Nat} {y0 : Int32} {w : MW} (h0 : mRk 2 y0 = true) : mX d 134 88 [mJ, mJ, mJ, mJ] [.int y0] w = some (.inl (some (.int y0)), w) := by
  exact X_ireturn f_134_88 h0
theorem b_134_89 {d : Nat} {a0 : Nat} {x3 : Nat} {w : MW} (h0 : mTg w a0 = 10) (h1 : mR w a0 12 = some (gR w a0 12)) (h2 : 52 ≤ mTg w (gR w a0 12) ∧ mTg w (gR w a0 12) < 55) (h3 : x3 < 2147483648) (h4 : x3 < mLn w (gR w a0 12)) (h5 : mR w (gR w a0 12) x3 = some (gR w (gR w a0 12) x3)) (h6 : mTg w (gR w (gR w a0 12) x3) = 50) (h7 : 2 < mLn w (gR w (gR w a0 12) x3)) : mX d 134 89 [.ref a0, mJ, mJ, .int (nI x3)] [] w = (if ¬ (mI w (gR w (gR w a0 12) x3) 2) = (nI 1) then mX d 134 105 [mJ, mJ, mJ, mJ] [] w else mX d 134 101 [mJ, mJ, mJ, mJ] [] w) := by
  refine Eq.trans (X_st f_134_89 rfl rfl) ?_
  refine Eq.trans (X_getR f_134_90 h0 rfl h1) ?_
  refine Eq.trans (X_st f_134_93 rfl rfl) ?_
  refine Eq.trans (X_aald f_134_94 h2 (jnn h3) (jcl h3) h4 h5) ?_
  refine Eq.trans (X_iconst f_134_95 kc_i_2) ?_
  refine Eq.trans (X_iald f_134_96 h6 kn_2 kl_2 h7) ?_
  refine Eq.trans (X_iconst f_134_97 kc_i_1) ?_
  refine Eq.trans (X_br f_134_98 rfl rfl) ?_
  exact mIte_eq (mX_mask rfl) (mX_mask rfl)
theorem b_134_101 {d : Nat} {w : MW} : mX d 134 101 [mJ, mJ, mJ, mJ] [] w = mX d 134 106 [mJ, mJ, mJ, mJ] [.int (nI 1)] w := by
  refine Eq.trans (X_iconst f_134_101 kc_i_1) ?_
  refine Eq.trans (X_st f_134_102 rfl rfl) ?_
  exact mX_mask rfl
theorem b_134_105 {d : Nat} {w : MW} : mX d 134 105 [mJ, mJ, mJ, mJ] [] w = mX d 134 106 [mJ, mJ, mJ, mJ] [.int (nI 0)] w := by
  refine Eq.trans (X_iconst f_134_105 kc_i_0) ?_
  exact mX_mask rfl
theorem b_134_106 {d : Nat} {y0 : Int32} {w : MW} (h0 : mRk 2 y0 = true) : mX d 134 106 [mJ, mJ, mJ, mJ] [.int y0] w = some (.inl (some (.int y0)), w) := by
  exact X_ireturn f_134_106 h0
theorem b_134_107 {d : Nat} {a0 : Nat} {x2 : Int32} {w : MW} (h0 : mTg w a0 = 10) : mX d 134 107 [.ref a0, mJ, .int x2, mJ] [] w = (if (mI w a0 0) ≤ x2 then mX d 134 119 [mJ, mJ, mJ, mJ] [] w else mX d 134 115 [mJ, mJ, mJ, mJ] [] w) := by
  refine Eq.trans (X_st f_134_107 rfl rfl) ?_
  refine Eq.trans (X_getI f_134_108 h0 rfl) ?_
  refine Eq.trans (X_st f_134_111 rfl rfl) ?_
  refine Eq.trans (X_br f_134_112 rfl rfl) ?_
  exact mIte_eq (mX_mask rfl) (mX_mask rfl)
theorem b_134_115 {d : Nat} {w : MW} : mX d 134 115 [mJ, mJ, mJ, mJ] [] w = mX d 134 120 [mJ, mJ, mJ, mJ] [.int (nI 1)] w := by
  refine Eq.trans (X_iconst f_134_115 kc_i_1) ?_
  refine Eq.trans (X_st f_134_116 rfl rfl) ?_
  exact mX_mask rfl
theorem b_134_119 {d : Nat} {w : MW} : mX d 134 119 [mJ, mJ, mJ, mJ] [] w = mX d 134 120 [mJ, mJ, mJ, mJ] [.int (nI 0)] w := by
  refine Eq.trans (X_iconst f_134_119 kc_i_0) ?_
  exact mX_mask rfl
theorem b_134_120 {d : Nat} {y0 : Int32} {w : MW} (h0 : mRk 2 y0 = true) : mX d 134 120 [mJ, mJ, mJ, mJ] [.int y0] w = some (.inl (some (.int y0)), w) := by
  exact X_ireturn f_134_120 h0
theorem b_134_121 {d : Nat} {a0 : Nat} {x2 : Int32} {x3 : Int32} {w : MW} (h0 : mTg w a0 = 10) : mX (d + 1) 134 121 [.ref a0, mJ, .int x2, .int x3] [] w = mThen (mK d 132 [.ref a0] w) (fun v w9 => mX (d + 1) 134 125 [.ref a0, mJ, .int x2, .int x3] (v.toList ++ []) w9) := by
  refine Eq.trans (X_st f_134_121 rfl rfl) ?_
  refine Eq.trans (X_call f_134_122 (by decide) rfl rfl rfl rfl rfl rfl (Nat.le_of_ble_eq_true rfl) (Nat.le_of_ble_eq_true rfl) (decide_eq_true h0) (Nat.le_of_ble_eq_true rfl)) ?_
  exact mThen_eq fun v w9 => mX_mask rfl
theorem b_134_125 {d : Nat} {a0 : Nat} {x2 : Int32} {x3 : Int32} {y0 : Int32} {w : MW} : mX d 134 125 [.ref a0, mJ, .int x2, .int x3] [.int y0] w = (if x2 < y0 then mX d 134 144 [mJ, mJ, mJ, mJ] [] w else mX d 134 129 [.ref a0, mJ, mJ, .int x3] [] w) := by
  refine Eq.trans (X_st f_134_125 rfl rfl) ?_
  refine Eq.trans (X_br f_134_126 rfl rfl) ?_
  exact mIte_eq (mX_mask rfl) (mX_mask rfl)
theorem b_134_129 {d : Nat} {a0 : Nat} {x3 : Nat} {w : MW} (h0 : mTg w a0 = 10) (h1 : mR w a0 12 = some (gR w a0 12)) (h2 : 52 ≤ mTg w (gR w a0 12) ∧ mTg w (gR w a0 12) < 55) (h3 : x3 < 2147483648) (h4 : x3 < mLn w (gR w a0 12)) (h5 : mR w (gR w a0 12) x3 = some (gR w (gR w a0 12) x3)) (h6 : mTg w (gR w (gR w a0 12) x3) = 50) (h7 : 3 < mLn w (gR w (gR w a0 12) x3)) : mX d 134 129 [.ref a0, mJ, mJ, .int (nI x3)] [] w = (if (mI w (gR w (gR w a0 12) x3) 3) ≤ nI 0 then mX d 134 144 [mJ, mJ, mJ, mJ] [] w else mX d 134 140 [mJ, mJ, mJ, mJ] [] w) := by
  refine Eq.trans (X_st f_134_129 rfl rfl) ?_
  refine Eq.trans (X_getR f_134_130 h0 rfl h1) ?_
  refine Eq.trans (X_st f_134_133 rfl rfl) ?_
  refine Eq.trans (X_aald f_134_134 h2 (jnn h3) (jcl h3) h4 h5) ?_
  refine Eq.trans (X_iconst f_134_135 kc_i_3) ?_
  refine Eq.trans (X_iald f_134_136 h6 kn_3 kl_3 h7) ?_
  refine Eq.trans (X_br f_134_137 rfl rfl) ?_
  exact mIte_eq (mX_mask rfl) (mX_mask rfl)
theorem b_134_140 {d : Nat} {w : MW} : mX d 134 140 [mJ, mJ, mJ, mJ] [] w = mX d 134 145 [mJ, mJ, mJ, mJ] [.int (nI 1)] w := by
  refine Eq.trans (X_iconst f_134_140 kc_i_1) ?_
  refine Eq.trans (X_st f_134_141 rfl rfl) ?_
  exact mX_mask rfl
theorem b_134_144 {d : Nat} {w : MW} : mX d 134 144 [mJ, mJ, mJ, mJ] [] w = mX d 134 145 [mJ, mJ, mJ, mJ] [.int (nI 0)] w := by
  refine Eq.trans (X_iconst f_134_144 kc_i_0) ?_
  exact mX_mask rfl
theorem b_134_145 {d : Nat} {y0 : Int32} {w : MW} (h0 : mRk 2 y0 = true) : mX d 134 145 [mJ, mJ, mJ, mJ] [.int y0] w = some (.inl (some (.int y0)), w) := by
  exact X_ireturn f_134_145 h0
theorem b_134_146 {d : Nat} {a0 : Nat} {a1 : Nat} {x2 : Int32} {x3 : Int32} {w : MW} (h0 : mTg w a0 = 10) : mX d 134 146 [.ref a0, .ref a1, .int x2, .int x3] [] w = (if (mI w a0 1) < nI 0 then mX d 134 172 [mJ, mJ, mJ, mJ] [] w else mX d 134 153 [.ref a0, .ref a1, .int x2, .int x3] [] w) := by
  refine Eq.trans (X_st f_134_146 rfl rfl) ?_
  refine Eq.trans (X_getI f_134_147 h0 rfl) ?_
  refine Eq.trans (X_br f_134_150 rfl rfl) ?_
  exact mIte_eq (mX_mask rfl) (mX_mask rfl)
theorem b_134_153 {d : Nat} {a0 : Nat} {a1 : Nat} {x2 : Int32} {x3 : Int32} {w : MW} (h0 : mTg w a0 = 10) : mX d 134 153 [.ref a0, .ref a1, .int x2, .int x3] [] w = (if ¬ (mI w a0 4) = x3 then mX d 134 172 [mJ, mJ, mJ, mJ] [] w else mX d 134 161 [.ref a0, .ref a1, .int x2, mJ] [] w) := by
  refine Eq.trans (X_st f_134_153 rfl rfl) ?_
  refine Eq.trans (X_getI f_134_154 h0 rfl) ?_
  refine Eq.trans (X_st f_134_157 rfl rfl) ?_
  refine Eq.trans (X_br f_134_158 rfl rfl) ?_
  exact mIte_eq (mX_mask rfl) (mX_mask rfl)
theorem b_134_161 {d : Nat} {a0 : Nat} {a1 : Nat} {x2 : Int32} {w : MW} (h0 : mTg w a1 = 50) (h1 : 5 < mLn w a1) (h2 : mTg w a0 = 10) : mX (d + 1) 134 161 [.ref a0, .ref a1, .int x2, mJ] [] w = mThen (mK d 128 [.ref a0, .int (mI w a1 5)] w) (fun v w9 => mX (d + 1) 134 168 [mJ, mJ, .int x2, mJ] (v.toList ++ []) w9) := by
  refine Eq.trans (X_st f_134_161 rfl rfl) ?_
  refine Eq.trans (X_st f_134_162 rfl rfl) ?_
  refine Eq.trans (X_iconst f_134_163 kc_i_5) ?_
  refine Eq.trans (X_iald f_134_164 h0 kn_5 kl_5 h1) ?_
  refine Eq.trans (X_call f_134_165 (by decide) rfl rfl rfl rfl rfl rfl (Nat.le_of_ble_eq_true rfl) (Nat.le_of_ble_eq_true rfl) (decide_eq_true h2) (Nat.le_of_ble_eq_true rfl)) ?_
  exact mThen_eq fun v w9 => mX_mask rfl
theorem b_134_168 {d : Nat} {x2 : Int32} {y0 : Int32} {w : MW} : mX d 134 168 [mJ, mJ, .int x2, mJ] [.int y0] w = (if y0 ≤ x2 then mX d 134 176 [mJ, mJ, mJ, mJ] [] w else mX d 134 172 [mJ, mJ, mJ, mJ] [] w) := by
  refine Eq.trans (X_st f_134_168 rfl rfl) ?_
  refine Eq.trans (X_br f_134_169 rfl rfl) ?_
  exact mIte_eq (mX_mask rfl) (mX_mask rfl)
theorem b_134_172 {d : Nat} {w : MW} : mX d 134 172 [mJ, mJ, mJ, mJ] [] w = mX d 134 177 [mJ, mJ, mJ, mJ] [.int (nI 1)] w := by
  refine Eq.trans (X_iconst f_134_172 kc_i_1) ?_
  refine Eq.trans (X_st f_134_173 rfl rfl) ?_
  exact mX_mask rfl
theorem b_134_176 {d : Nat} {w : MW} : mX d 134 176 [mJ, mJ, mJ, mJ] [] w = mX d 134 177 [mJ, mJ, mJ, mJ] [.int (nI 0)] w := by
  refine Eq.trans (X_iconst f_134_176 kc_i_0) ?_
  exact mX_mask rfl
theorem b_134_177 {d : Nat} {y0 : Int32} {w : MW} (h0 : mRk 2 y0 = true) : mX d 134 177 [mJ, mJ, mJ, mJ] [.int y0] w = some (.inl (some (.int y0)), w) := by
  exact X_ireturn f_134_177 h0
theorem b_134_178 {d : Nat} {a0 : Nat} {a1 : Nat} {x2 : Int32} {x3 : Nat} {w : MW} (h0 : mTg w a0 = 10) (h1 : mR w a0 12 = some (gR w a0 12)) (h2 : 52 ≤ mTg w (gR w a0 12) ∧ mTg w (gR w a0 12) < 55) (h3 : x3 < 2147483648) (h4 : x3 < mLn w (gR w a0 12)) (h5 : mR w (gR w a0 12) x3 = some (gR w (gR w a0 12) x3)) (h6 : mTg w (gR w (gR w a0 12) x3) = 50) (h7 : 0 < mLn w (gR w (gR w a0 12) x3)) : mX d 134 178 [.ref a0, .ref a1, .int x2, .int (nI x3)] [] w = (if ¬ (mI w (gR w (gR w a0 12) x3) 0) = (nI 1) then mX d 134 213 [mJ, mJ, mJ, mJ] [] w else mX d 134 190 [.ref a0, .ref a1, .int x2, .int (nI x3)] [] w) := by
  refine Eq.trans (X_st f_134_178 rfl rfl) ?_
  refine Eq.trans (X_getR f_134_179 h0 rfl h1) ?_
  refine Eq.trans (X_st f_134_182 rfl rfl) ?_
  refine Eq.trans (X_aald f_134_183 h2 (jnn h3) (jcl h3) h4 h5) ?_
  refine Eq.trans (X_iconst f_134_184 kc_i_0) ?_
  refine Eq.trans (X_iald f_134_185 h6 kn_0 kl_0 h7) ?_
  refine Eq.trans (X_iconst f_134_186 kc_i_1) ?_
  refine Eq.trans (X_br f_134_187 rfl rfl) ?_
  exact mIte_eq (mX_mask rfl) (mX_mask rfl)
theorem b_134_190 {d : Nat} {a0 : Nat} {a1 : Nat} {x2 : Int32} {x3 : Int32} {w : MW} (h0 : mTg w a0 = 10) : mX (d + 1) 134 190 [.ref a0, .ref a1, .int x2, .int x3] [] w = mThen (mK d 131 [.ref a0, .int x3] w) (fun v w9 => mX (d + 1) 134 195 [.ref a0, .ref a1, .int x2, mJ] (v.toList ++ []) w9) := by
  refine Eq.trans (X_st f_134_190 rfl rfl) ?_
  refine Eq.trans (X_st f_134_191 rfl rfl) ?_
  refine Eq.trans (X_call f_134_192 (by decide) rfl rfl rfl rfl rfl rfl (Nat.le_of_ble_eq_true rfl) (Nat.le_of_ble_eq_true rfl) (decide_eq_true h0) (Nat.le_of_ble_eq_true rfl)) ?_
  exact mThen_eq fun v w9 => mX_mask rfl
theorem b_134_195 {d : Nat} {a0 : Nat} {a1 : Nat} {x2 : Int32} {y0 : Int32} {w : MW} (h0 : mTg w a1 = 50) (h1 : 5 < mLn w a1) (h2 : mTg w a0 = 10) : mX (d + 1) 134 195 [.ref a0, .ref a1, .int x2, mJ] [.int y0] w = mThen (mK d 128 [.ref a0, .int (mI w a1 5)] w) (fun v w9 => mX (d + 1) 134 202 [mJ, mJ, .int x2, mJ] (v.toList ++ [.int y0]) w9) := by
  refine Eq.trans (X_st f_134_195 rfl rfl) ?_
  refine Eq.trans (X_st f_134_196 rfl rfl) ?_
  refine Eq.trans (X_iconst f_134_197 kc_i_5) ?_
  refine Eq.trans (X_iald f_134_198 h0 kn_5 kl_5 h1) ?_
  refine Eq.trans (X_call f_134_199 (by decide) rfl rfl rfl rfl rfl rfl (Nat.le_of_ble_eq_true rfl) (Nat.le_of_ble_eq_true rfl) (decide_eq_true h2) (Nat.le_of_ble_eq_true rfl)) ?_
  exact mThen_eq fun v w9 => mX_mask rfl
theorem b_134_202 {d : Nat} {x2 : Int32} {y0 : Int32} {y1 : Int32} {w : MW} : mX d 134 202 [mJ, mJ, .int x2, mJ] [.int y0, .int y1] w = (if x2 ≤ (y1 - (y0 / (nI 2))) then mX d 134 213 [mJ, mJ, mJ, mJ] [] w else mX d 134 209 [mJ, mJ, mJ, mJ] [] w) := by
  refine Eq.trans (X_iconst f_134_202 kc_i_2) ?_
  refine Eq.trans (X_idiv f_134_203 kz_2) ?_
  refine Eq.trans (X_st f_134_204 rfl rfl) ?_
  refine Eq.trans (X_st f_134_205 rfl rfl) ?_
  refine Eq.trans (X_br f_134_206 rfl rfl) ?_
  exact mIte_eq (mX_mask rfl) (mX_mask rfl)
theorem b_134_209 {d : Nat} {w : MW} : mX d 134 209 [mJ, mJ, mJ, mJ] [] w = mX d 134 214 [mJ, mJ, mJ, mJ] [.int (nI 1)] w := by
  refine Eq.trans (X_iconst f_134_209 kc_i_1) ?_
  refine Eq.trans (X_st f_134_210 rfl rfl) ?_
  exact mX_mask rfl
theorem b_134_213 {d : Nat} {w : MW} : mX d 134 213 [mJ, mJ, mJ, mJ] [] w = mX d 134 214 [mJ, mJ, mJ, mJ] [.int (nI 0)] w := by
  refine Eq.trans (X_iconst f_134_213 kc_i_0) ?_
  exact mX_mask rfl
theorem b_134_214 {d : Nat} {y0 : Int32} {w : MW} (h0 : mRk 2 y0 = true) : mX d 134 214 [mJ, mJ, mJ, mJ] [.int y0] w = some (.inl (some (.int y0)), w) := by
  exact X_ireturn f_134_214 h0
theorem b_134_215 {d : Nat} {w : MW} : mX d 134 215 [mJ, mJ, mJ, mJ] [] w = some (.inl (some (.int (nI 1))), w) := by
  refine Eq.trans (X_iconst f_134_215 kc_i_1) ?_
  exact X_ireturn f_134_216 rfl
theorem b_134_217 {d : Nat} {a0 : Nat} {x2 : Int32} {x3 : Nat} {w : MW} (h0 : mTg w a0 = 10) (h1 : mR w a0 12 = some (gR w a0 12)) (h2 : 52 ≤ mTg w (gR w a0 12) ∧ mTg w (gR w a0 12) < 55) (h3 : x3 < 2147483648) (h4 : x3 < mLn w (gR w a0 12)) (h5 : mR w (gR w a0 12) x3 = some (gR w (gR w a0 12) x3)) (h6 : mTg w (gR w (gR w a0 12) x3) = 50) (h7 : 1 < mLn w (gR w (gR w a0 12) x3)) : mX (d + 1) 134 217 [.ref a0, mJ, .int x2, .int (nI x3)] [] w = mThen (mK d 183 [.int (mI w (gR w (gR w a0 12) x3) 1), .int x2] w) (fun v w9 => mX (d + 1) 134 229 [.ref a0, mJ, mJ, mJ] (v.toList ++ []) w9) := by
  refine Eq.trans (X_st f_134_217 rfl rfl) ?_
  refine Eq.trans (X_getR f_134_218 h0 rfl h1) ?_
  refine Eq.trans (X_st f_134_221 rfl rfl) ?_
  refine Eq.trans (X_aald f_134_222 h2 (jnn h3) (jcl h3) h4 h5) ?_
  refine Eq.trans (X_iconst f_134_223 kc_i_1) ?_
  refine Eq.trans (X_iald f_134_224 h6 kn_1 kl_1 h7) ?_
  refine Eq.trans (X_st f_134_225 rfl rfl) ?_
  refine Eq.trans (X_call f_134_226 (by decide) rfl rfl rfl rfl rfl rfl (Nat.le_of_ble_eq_true rfl) (Nat.le_of_ble_eq_true rfl) rfl (Nat.le_of_ble_eq_true rfl)) ?_
  exact mThen_eq fun v w9 => mX_mask rfl
theorem b_134_229 {d : Nat} {a0 : Nat} {y0 : Int32} {w : MW} (h0 : mTg w a0 = 10) : mX d 134 229 [.ref a0, mJ, mJ, mJ] [.int y0] w = (if (y0 * (nI 2)) ≤ ((mI w a0 0) / (nI 3)) then mX d 134 244 [mJ, mJ, mJ, mJ] [] w else mX d 134 240 [mJ, mJ, mJ, mJ] [] w) := by
  refine Eq.trans (X_iconst f_134_229 kc_i_2) ?_
  refine Eq.trans (X_st f_134_230 rfl rfl) ?_
  refine Eq.trans (X_st f_134_231 rfl rfl) ?_
  refine Eq.trans (X_getI f_134_232 h0 rfl) ?_
  refine Eq.trans (X_iconst f_134_235 kc_i_3) ?_
  refine Eq.trans (X_idiv f_134_236 kz_3) ?_
  refine Eq.trans (X_br f_134_237 rfl rfl) ?_
  exact mIte_eq (mX_mask rfl) (mX_mask rfl)
theorem b_134_240 {d : Nat} {w : MW} : mX d 134 240 [mJ, mJ, mJ, mJ] [] w = mX d 134 245 [mJ, mJ, mJ, mJ] [.int (nI 1)] w := by
  refine Eq.trans (X_iconst f_134_240 kc_i_1) ?_
  refine Eq.trans (X_st f_134_241 rfl rfl) ?_
  exact mX_mask rfl
theorem b_134_244 {d : Nat} {w : MW} : mX d 134 244 [mJ, mJ, mJ, mJ] [] w = mX d 134 245 [mJ, mJ, mJ, mJ] [.int (nI 0)] w := by
  refine Eq.trans (X_iconst f_134_244 kc_i_0) ?_
  exact mX_mask rfl
theorem b_134_245 {d : Nat} {y0 : Int32} {w : MW} (h0 : mRk 2 y0 = true) : mX d 134 245 [mJ, mJ, mJ, mJ] [.int y0] w = some (.inl (some (.int y0)), w) := by
  exact X_ireturn f_134_245 h0
/-! BeeTurnpikeLaw$Sim canHint ()Z -/
theorem f_135_0 : mFetch 135 0 = some (.aload_n 0, 1, []) := by decide +kernel
theorem f_135_1 : mFetch 135 1 = some (.getfield 7, 3, [10, 1, 0, 1329]) := by decide +kernel
theorem f_135_4 : mFetch 135 4 = some (.ifCond .lt 29, 3, [33]) := by decide +kernel
theorem f_135_7 : mFetch 135 7 = some (.aload_n 0, 1, []) := by decide +kernel
theorem f_135_8 : mFetch 135 8 = some (.getfield 68, 3, [10, 5, 0, 1335]) := by decide +kernel
theorem f_135_11 : mFetch 135 11 = some (.iconst 2, 1, []) := by decide +kernel
theorem f_135_12 : mFetch 135 12 = some (.if_icmp .ge 21, 3, [33]) := by decide +kernel
theorem f_135_15 : mFetch 135 15 = some (.aload_n 0, 1, []) := by decide +kernel
theorem f_135_16 : mFetch 135 16 = some (.getfield 31, 3, [10, 12, 0, 1346]) := by decide +kernel
theorem f_135_19 : mFetch 135 19 = some (.aload_n 0, 1, []) := by decide +kernel
theorem f_135_20 : mFetch 135 20 = some (.getfield 65, 3, [10, 4, 0, 1334]) := by decide +kernel
theorem f_135_23 : mFetch 135 23 = some (.aaload, 1, []) := by decide +kernel
theorem f_135_24 : mFetch 135 24 = some (.iconst 1, 1, []) := by decide +kernel
theorem f_135_25 : mFetch 135 25 = some (.iaload, 1, []) := by decide +kernel
theorem f_135_26 : mFetch 135 26 = some (.ifCond .le 7, 3, [33]) := by decide +kernel
theorem f_135_29 : mFetch 135 29 = some (.iconst 1, 1, []) := by decide +kernel
theorem f_135_30 : mFetch 135 30 = some (.goto 4, 3, [34]) := by decide +kernel
theorem f_135_33 : mFetch 135 33 = some (.iconst 0, 1, []) := by decide +kernel
theorem f_135_34 : mFetch 135 34 = some (.ireturn, 1, [2]) := by decide +kernel
theorem b_135_0 {d : Nat} {a0 : Nat} {w : MW} (h0 : mTg w a0 = 10) : mX d 135 0 [.ref a0] [] w = (if (mI w a0 1) < nI 0 then mX d 135 33 [mJ] [] w else mX d 135 7 [.ref a0] [] w) := by
  refine Eq.trans (X_st f_135_0 rfl rfl) ?_
  refine Eq.trans (X_getI f_135_1 h0 rfl) ?_
  refine Eq.trans (X_br f_135_4 rfl rfl) ?_
  exact mIte_eq (mX_mask rfl) (mX_mask rfl)
theorem e_135 {d : Nat} {a0 : Nat} {w : MW} : mK d 135 [.ref a0] w = mX d 135 0 [.ref a0] [] w := rfl
theorem b_135_7 {d : Nat} {a0 : Nat} {w : MW} (h0 : mTg w a0 = 10) : mX d 135 7 [.ref a0] [] w = (if (nI 2) ≤ (mI w a0 5) then mX d 135 33 [mJ] [] w else mX d 135 15 [.ref a0] [] w) := by
  refine Eq.trans (X_st f_135_7 rfl rfl) ?_
  refine Eq.trans (X_getI f_135_8 h0 rfl) ?_
  refine Eq.trans (X_iconst f_135_11 kc_i_2) ?_
  refine Eq.trans (X_br f_135_12 rfl rfl) ?_
  exact mIte_eq (mX_mask rfl) (mX_mask rfl)
theorem b_135_15 {d : Nat} {a0 : Nat} {z0 : Nat} {w : MW} (h0 : mTg w a0 = 10) (h1 : mR w a0 12 = some (gR w a0 12)) (h2 : 52 ≤ mTg w (gR w a0 12) ∧ mTg w (gR w a0 12) < 55) (h3 : (mI w a0 4) = nI z0) (h4 : z0 < 2147483648) (h5 : z0 < mLn w (gR w a0 12)) (h6 : mR w (gR w a0 12) z0 = some (gR w (gR w a0 12) z0)) (h7 : mTg w (gR w (gR w a0 12) z0) = 50) (h8 : 1 < mLn w (gR w (gR w a0 12) z0)) : mX d 135 15 [.ref a0] [] w = (if (mI w (gR w (gR w a0 12) z0) 1) ≤ nI 0 then mX d 135 33 [mJ] [] w else mX d 135 29 [mJ] [] w) := by
  refine Eq.trans (X_st f_135_15 rfl rfl) ?_
  refine Eq.trans (X_getR f_135_16 h0 rfl h1) ?_
  refine Eq.trans (X_st f_135_19 rfl rfl) ?_
  refine Eq.trans (X_getI f_135_20 h0 rfl) ?_
  refine Eq.trans (X_aald f_135_23 h2 (jnnE h3 h4) (jclE h3 h4) h5 h6) ?_
  refine Eq.trans (X_iconst f_135_24 kc_i_1) ?_
  refine Eq.trans (X_iald f_135_25 h7 kn_1 kl_1 h8) ?_
  refine Eq.trans (X_br f_135_26 rfl rfl) ?_
  exact mIte_eq (mX_mask rfl) (mX_mask rfl)
theorem b_135_29 {d : Nat} {w : MW} : mX d 135 29 [mJ] [] w = mX d 135 34 [mJ] [.int (nI 1)] w := by
  refine Eq.trans (X_iconst f_135_29 kc_i_1) ?_
  refine Eq.trans (X_st f_135_30 rfl rfl) ?_
  exact mX_mask rfl
theorem b_135_33 {d : Nat} {w : MW} : mX d 135 33 [mJ] [] w = mX d 135 34 [mJ] [.int (nI 0)] w := by
  refine Eq.trans (X_iconst f_135_33 kc_i_0) ?_
  exact mX_mask rfl
theorem b_135_34 {d : Nat} {y0 : Int32} {w : MW} (h0 : mRk 2 y0 = true) : mX d 135 34 [mJ] [.int y0] w = some (.inl (some (.int y0)), w) := by
  exact X_ireturn f_135_34 h0
/-! BeeTurnpikeLaw$Sim hint ()V -/
theorem f_136_0 : mFetch 136 0 = some (.aload_n 0, 1, []) := by decide +kernel
theorem f_136_1 : mFetch 136 1 = some (.getfield 31, 3, [10, 12, 0, 1346]) := by decide +kernel
theorem f_136_4 : mFetch 136 4 = some (.aload_n 0, 1, []) := by decide +kernel
theorem f_136_5 : mFetch 136 5 = some (.getfield 65, 3, [10, 4, 0, 1334]) := by decide +kernel
theorem f_136_8 : mFetch 136 8 = some (.aaload, 1, []) := by decide +kernel
theorem f_136_9 : mFetch 136 9 = some (.iconst 1, 1, []) := by decide +kernel
theorem f_136_10 : mFetch 136 10 = some (.dup2, 1, []) := by decide +kernel
theorem f_136_11 : mFetch 136 11 = some (.iaload, 1, []) := by decide +kernel
theorem f_136_12 : mFetch 136 12 = some (.iconst 1, 1, []) := by decide +kernel
theorem f_136_13 : mFetch 136 13 = some (.isub, 1, []) := by decide +kernel
theorem f_136_14 : mFetch 136 14 = some (.iastore, 1, []) := by decide +kernel
theorem f_136_15 : mFetch 136 15 = some (.aload_n 0, 1, []) := by decide +kernel
theorem f_136_16 : mFetch 136 16 = some (.getfield 31, 3, [10, 12, 0, 1346]) := by decide +kernel
theorem f_136_19 : mFetch 136 19 = some (.aload_n 0, 1, []) := by decide +kernel
theorem f_136_20 : mFetch 136 20 = some (.getfield 65, 3, [10, 4, 0, 1334]) := by decide +kernel
theorem f_136_23 : mFetch 136 23 = some (.aaload, 1, []) := by decide +kernel
theorem f_136_24 : mFetch 136 24 = some (.iconst 5, 1, []) := by decide +kernel
theorem f_136_25 : mFetch 136 25 = some (.dup2, 1, []) := by decide +kernel
theorem f_136_26 : mFetch 136 26 = some (.iaload, 1, []) := by decide +kernel
theorem f_136_27 : mFetch 136 27 = some (.iconst 1, 1, []) := by decide +kernel
theorem f_136_28 : mFetch 136 28 = some (.iadd, 1, []) := by decide +kernel
theorem f_136_29 : mFetch 136 29 = some (.iastore, 1, []) := by decide +kernel
theorem f_136_30 : mFetch 136 30 = some (.aload_n 0, 1, []) := by decide +kernel
theorem f_136_31 : mFetch 136 31 = some (.dup, 1, []) := by decide +kernel
theorem f_136_32 : mFetch 136 32 = some (.getfield 68, 3, [10, 5, 0, 1335]) := by decide +kernel
theorem f_136_35 : mFetch 136 35 = some (.iconst 1, 1, []) := by decide +kernel
theorem f_136_36 : mFetch 136 36 = some (.iadd, 1, []) := by decide +kernel
theorem f_136_37 : mFetch 136 37 = some (.putfield 68, 3, [10, 5, 0, 1335]) := by decide +kernel
theorem f_136_40 : mFetch 136 40 = some (.aload_n 0, 1, []) := by decide +kernel
theorem f_136_41 : mFetch 136 41 = some (.getfield 13, 3, [10, 7, 0, 1337]) := by decide +kernel
theorem f_136_44 : mFetch 136 44 = some (.iconst 2, 1, []) := by decide +kernel
theorem f_136_45 : mFetch 136 45 = some (.dup2, 1, []) := by decide +kernel
theorem f_136_46 : mFetch 136 46 = some (.iaload, 1, []) := by decide +kernel
theorem f_136_47 : mFetch 136 47 = some (.iconst 1, 1, []) := by decide +kernel
theorem f_136_48 : mFetch 136 48 = some (.iadd, 1, []) := by decide +kernel
theorem f_136_49 : mFetch 136 49 = some (.iastore, 1, []) := by decide +kernel
theorem f_136_50 : mFetch 136 50 = some (.return_, 1, []) := by decide +kernel
theorem b_136_0 {d : Nat} {a0 : Nat} {z0 : Nat} {w : MW} (h0 : mTg w a0 = 10) (h1 : mR w a0 12 = some (gR w a0 12)) (h2 : 52 ≤ mTg w (gR w a0 12) ∧ mTg w (gR w a0 12) < 55) (h3 : (mI w a0 4) = nI z0) (h4 : z0 < 2147483648) (h5 : z0 < mLn w (gR w a0 12)) (h6 : mR w (gR w a0 12) z0 = some (gR w (gR w a0 12) z0)) (h7 : mTg w (gR w (gR w a0 12) z0) = 50) (h8 : 1 < mLn w (gR w (gR w a0 12) z0)) (h9 : mE ≤ (gR w (gR w a0 12) z0)) : mX d 136 0 [.ref a0] [] w = mX d 136 15 [.ref a0] [] (wI w (gR w (gR w a0 12) z0) 1 ((mI w (gR w (gR w a0 12) z0) 1) - (nI 1))) := by
  refine Eq.trans (X_st f_136_0 rfl rfl) ?_
  refine Eq.trans (X_getR f_136_1 h0 rfl h1) ?_
  refine Eq.trans (X_st f_136_4 rfl rfl) ?_
  refine Eq.trans (X_getI f_136_5 h0 rfl) ?_
  refine Eq.trans (X_aald f_136_8 h2 (jnnE h3 h4) (jclE h3 h4) h5 h6) ?_
  refine Eq.trans (X_iconst f_136_9 kc_i_1) ?_
  refine Eq.trans (X_dup2 f_136_10 rfl rfl) ?_
  refine Eq.trans (X_iald f_136_11 h7 kn_1 kl_1 h8) ?_
  refine Eq.trans (X_iconst f_136_12 kc_i_1) ?_
  refine Eq.trans (X_st f_136_13 rfl rfl) ?_
  refine Eq.trans (X_iast f_136_14 h7 h9 kn_1 kl_1 h8) ?_
  exact mX_mask rfl
theorem e_136 {d : Nat} {a0 : Nat} {w : MW} : mK d 136 [.ref a0] w = mX d 136 0 [.ref a0] [] w := rfl
theorem b_136_15 {d : Nat} {a0 : Nat} {z0 : Nat} {w : MW} (h0 : mTg w a0 = 10) (h1 : mR w a0 12 = some (gR w a0 12)) (h2 : 52 ≤ mTg w (gR w a0 12) ∧ mTg w (gR w a0 12) < 55) (h3 : (mI w a0 4) = nI z0) (h4 : z0 < 2147483648) (h5 : z0 < mLn w (gR w a0 12)) (h6 : mR w (gR w a0 12) z0 = some (gR w (gR w a0 12) z0)) (h7 : mTg w (gR w (gR w a0 12) z0) = 50) (h8 : 5 < mLn w (gR w (gR w a0 12) z0)) (h9 : mE ≤ (gR w (gR w a0 12) z0)) : mX d 136 15 [.ref a0] [] w = mX d 136 30 [.ref a0] [] (wI w (gR w (gR w a0 12) z0) 5 ((mI w (gR w (gR w a0 12) z0) 5) + (nI 1))) := by
  refine Eq.trans (X_st f_136_15 rfl rfl) ?_
  refine Eq.trans (X_getR f_136_16 h0 rfl h1) ?_
  refine Eq.trans (X_st f_136_19 rfl rfl) ?_
  refine Eq.trans (X_getI f_136_20 h0 rfl) ?_
  refine Eq.trans (X_aald f_136_23 h2 (jnnE h3 h4) (jclE h3 h4) h5 h6) ?_
  refine Eq.trans (X_iconst f_136_24 kc_i_5) ?_
  refine Eq.trans (X_dup2 f_136_25 rfl rfl) ?_
  refine Eq.trans (X_iald f_136_26 h7 kn_5 kl_5 h8) ?_
  refine Eq.trans (X_iconst f_136_27 kc_i_1) ?_
  refine Eq.trans (X_st f_136_28 rfl rfl) ?_
  refine Eq.trans (X_iast f_136_29 h7 h9 kn_5 kl_5 h8) ?_
  exact mX_mask rfl
theorem b_136_30 {d : Nat} {a0 : Nat} {w : MW} (h0 : mTg w a0 = 10) (h1 : mE ≤ a0) : mX d 136 30 [.ref a0] [] w = mX d 136 40 [.ref a0] [] (wI w a0 5 ((mI w a0 5) + (nI 1))) := by
  refine Eq.trans (X_st f_136_30 rfl rfl) ?_
  refine Eq.trans (X_dup f_136_31 rfl) ?_
  refine Eq.trans (X_getI f_136_32 h0 rfl) ?_
  refine Eq.trans (X_iconst f_136_35 kc_i_1) ?_
  refine Eq.trans (X_st f_136_36 rfl rfl) ?_
  refine Eq.trans (X_putI f_136_37 h0 h1 rfl rfl) ?_
  exact mX_mask rfl
theorem b_136_40 {d : Nat} {a0 : Nat} {w : MW} (h0 : mTg w a0 = 10) (h1 : mR w a0 7 = some (gR w a0 7)) (h2 : mTg w (gR w a0 7) = 50) (h3 : 2 < mLn w (gR w a0 7)) (h4 : mE ≤ (gR w a0 7)) : mX d 136 40 [.ref a0] [] w = mX d 136 50 [mJ] [] (wI w (gR w a0 7) 2 ((mI w (gR w a0 7) 2) + (nI 1))) := by
  refine Eq.trans (X_st f_136_40 rfl rfl) ?_
  refine Eq.trans (X_getR f_136_41 h0 rfl h1) ?_
  refine Eq.trans (X_iconst f_136_44 kc_i_2) ?_
  refine Eq.trans (X_dup2 f_136_45 rfl rfl) ?_
  refine Eq.trans (X_iald f_136_46 h2 kn_2 kl_2 h3) ?_
  refine Eq.trans (X_iconst f_136_47 kc_i_1) ?_
  refine Eq.trans (X_st f_136_48 rfl rfl) ?_
  refine Eq.trans (X_iast f_136_49 h2 h4 kn_2 kl_2 h3) ?_
  exact mX_mask rfl
theorem b_136_50 {d : Nat} {w : MW} : mX d 136 50 [mJ] [] w = some (.inl none, w) := by
  exact X_ret f_136_50 rfl rfl
/-! BeeTurnpikeLaw$Sim canPass ()Z -/
theorem f_137_0 : mFetch 137 0 = some (.aload_n 0, 1, []) := by decide +kernel
theorem f_137_1 : mFetch 137 1 = some (.getfield 7, 3, [10, 1, 0, 1329]) := by decide +kernel
theorem f_137_4 : mFetch 137 4 = some (.ifCond .lt 21, 3, [25]) := by decide +kernel
theorem f_137_7 : mFetch 137 7 = some (.aload_n 0, 1, []) := by decide +kernel
theorem f_137_8 : mFetch 137 8 = some (.getfield 31, 3, [10, 12, 0, 1346]) := by decide +kernel
theorem f_137_11 : mFetch 137 11 = some (.aload_n 0, 1, []) := by decide +kernel
theorem f_137_12 : mFetch 137 12 = some (.getfield 65, 3, [10, 4, 0, 1334]) := by decide +kernel
theorem f_137_15 : mFetch 137 15 = some (.aaload, 1, []) := by decide +kernel
theorem f_137_16 : mFetch 137 16 = some (.iconst 3, 1, []) := by decide +kernel
theorem f_137_17 : mFetch 137 17 = some (.iaload, 1, []) := by decide +kernel
theorem f_137_18 : mFetch 137 18 = some (.ifCond .le 7, 3, [25]) := by decide +kernel
theorem f_137_21 : mFetch 137 21 = some (.iconst 1, 1, []) := by decide +kernel
theorem f_137_22 : mFetch 137 22 = some (.goto 4, 3, [26]) := by decide +kernel
theorem f_137_25 : mFetch 137 25 = some (.iconst 0, 1, []) := by decide +kernel
theorem f_137_26 : mFetch 137 26 = some (.ireturn, 1, [2]) := by decide +kernel
theorem b_137_0 {d : Nat} {a0 : Nat} {w : MW} (h0 : mTg w a0 = 10) : mX d 137 0 [.ref a0] [] w = (if (mI w a0 1) < nI 0 then mX d 137 25 [mJ] [] w else mX d 137 7 [.ref a0] [] w) := by
  refine Eq.trans (X_st f_137_0 rfl rfl) ?_
  refine Eq.trans (X_getI f_137_1 h0 rfl) ?_
  refine Eq.trans (X_br f_137_4 rfl rfl) ?_
  exact mIte_eq (mX_mask rfl) (mX_mask rfl)
theorem e_137 {d : Nat} {a0 : Nat} {w : MW} : mK d 137 [.ref a0] w = mX d 137 0 [.ref a0] [] w := rfl
theorem b_137_7 {d : Nat} {a0 : Nat} {z0 : Nat} {w : MW} (h0 : mTg w a0 = 10) (h1 : mR w a0 12 = some (gR w a0 12)) (h2 : 52 ≤ mTg w (gR w a0 12) ∧ mTg w (gR w a0 12) < 55) (h3 : (mI w a0 4) = nI z0) (h4 : z0 < 2147483648) (h5 : z0 < mLn w (gR w a0 12)) (h6 : mR w (gR w a0 12) z0 = some (gR w (gR w a0 12) z0)) (h7 : mTg w (gR w (gR w a0 12) z0) = 50) (h8 : 3 < mLn w (gR w (gR w a0 12) z0)) : mX d 137 7 [.ref a0] [] w = (if (mI w (gR w (gR w a0 12) z0) 3) ≤ nI 0 then mX d 137 25 [mJ] [] w else mX d 137 21 [mJ] [] w) := by
  refine Eq.trans (X_st f_137_7 rfl rfl) ?_
  refine Eq.trans (X_getR f_137_8 h0 rfl h1) ?_
  refine Eq.trans (X_st f_137_11 rfl rfl) ?_
  refine Eq.trans (X_getI f_137_12 h0 rfl) ?_
  refine Eq.trans (X_aald f_137_15 h2 (jnnE h3 h4) (jclE h3 h4) h5 h6) ?_
  refine Eq.trans (X_iconst f_137_16 kc_i_3) ?_
  refine Eq.trans (X_iald f_137_17 h7 kn_3 kl_3 h8) ?_
  refine Eq.trans (X_br f_137_18 rfl rfl) ?_
  exact mIte_eq (mX_mask rfl) (mX_mask rfl)
theorem b_137_21 {d : Nat} {w : MW} : mX d 137 21 [mJ] [] w = mX d 137 26 [mJ] [.int (nI 1)] w := by
  refine Eq.trans (X_iconst f_137_21 kc_i_1) ?_
  refine Eq.trans (X_st f_137_22 rfl rfl) ?_
  exact mX_mask rfl
theorem b_137_25 {d : Nat} {w : MW} : mX d 137 25 [mJ] [] w = mX d 137 26 [mJ] [.int (nI 0)] w := by
  refine Eq.trans (X_iconst f_137_25 kc_i_0) ?_
  exact mX_mask rfl
theorem b_137_26 {d : Nat} {y0 : Int32} {w : MW} (h0 : mRk 2 y0 = true) : mX d 137 26 [mJ] [.int y0] w = some (.inl (some (.int y0)), w) := by
  exact X_ireturn f_137_26 h0
/-! BeeTurnpikeLaw$Sim pass ()V -/
theorem f_138_0 : mFetch 138 0 = some (.aload_n 0, 1, []) := by decide +kernel
theorem f_138_1 : mFetch 138 1 = some (.getfield 31, 3, [10, 12, 0, 1346]) := by decide +kernel
theorem f_138_4 : mFetch 138 4 = some (.aload_n 0, 1, []) := by decide +kernel
theorem f_138_5 : mFetch 138 5 = some (.getfield 65, 3, [10, 4, 0, 1334]) := by decide +kernel
theorem f_138_8 : mFetch 138 8 = some (.aaload, 1, []) := by decide +kernel
theorem f_138_9 : mFetch 138 9 = some (.iconst 3, 1, []) := by decide +kernel
theorem f_138_10 : mFetch 138 10 = some (.dup2, 1, []) := by decide +kernel
theorem f_138_11 : mFetch 138 11 = some (.iaload, 1, []) := by decide +kernel
theorem f_138_12 : mFetch 138 12 = some (.iconst 1, 1, []) := by decide +kernel
theorem f_138_13 : mFetch 138 13 = some (.isub, 1, []) := by decide +kernel
theorem f_138_14 : mFetch 138 14 = some (.iastore, 1, []) := by decide +kernel
theorem f_138_15 : mFetch 138 15 = some (.aload_n 0, 1, []) := by decide +kernel
theorem f_138_16 : mFetch 138 16 = some (.getfield 13, 3, [10, 7, 0, 1337]) := by decide +kernel
theorem f_138_19 : mFetch 138 19 = some (.iconst 3, 1, []) := by decide +kernel
theorem f_138_20 : mFetch 138 20 = some (.dup2, 1, []) := by decide +kernel
theorem f_138_21 : mFetch 138 21 = some (.iaload, 1, []) := by decide +kernel
theorem f_138_22 : mFetch 138 22 = some (.iconst 1, 1, []) := by decide +kernel
theorem f_138_23 : mFetch 138 23 = some (.iadd, 1, []) := by decide +kernel
theorem f_138_24 : mFetch 138 24 = some (.iastore, 1, []) := by decide +kernel
theorem f_138_25 : mFetch 138 25 = some (.aload_n 0, 1, []) := by decide +kernel
theorem f_138_26 : mFetch 138 26 = some (.invokevirtual 108, 3, [142, 1, 2, 10, 880, 882, 27]) := by decide +kernel
theorem f_138_29 : mFetch 138 29 = some (.return_, 1, []) := by decide +kernel
theorem b_138_0 {d : Nat} {a0 : Nat} {z0 : Nat} {w : MW} (h0 : mTg w a0 = 10) (h1 : mR w a0 12 = some (gR w a0 12)) (h2 : 52 ≤ mTg w (gR w a0 12) ∧ mTg w (gR w a0 12) < 55) (h3 : (mI w a0 4) = nI z0) (h4 : z0 < 2147483648) (h5 : z0 < mLn w (gR w a0 12)) (h6 : mR w (gR w a0 12) z0 = some (gR w (gR w a0 12) z0)) (h7 : mTg w (gR w (gR w a0 12) z0) = 50) (h8 : 3 < mLn w (gR w (gR w a0 12) z0)) (h9 : mE ≤ (gR w (gR w a0 12) z0)) : mX d 138 0 [.ref a0] [] w = mX d 138 15 [.ref a0] [] (wI w (gR w (gR w a0 12) z0) 3 ((mI w (gR w (gR w a0 12) z0) 3) - (nI 1))) := by
  refine Eq.trans (X_st f_138_0 rfl rfl) ?_
  refine Eq.trans (X_getR f_138_1 h0 rfl h1) ?_
  refine Eq.trans (X_st f_138_4 rfl rfl) ?_
  refine Eq.trans (X_getI f_138_5 h0 rfl) ?_
  refine Eq.trans (X_aald f_138_8 h2 (jnnE h3 h4) (jclE h3 h4) h5 h6) ?_
  refine Eq.trans (X_iconst f_138_9 kc_i_3) ?_
  refine Eq.trans (X_dup2 f_138_10 rfl rfl) ?_
  refine Eq.trans (X_iald f_138_11 h7 kn_3 kl_3 h8) ?_
  refine Eq.trans (X_iconst f_138_12 kc_i_1) ?_
  refine Eq.trans (X_st f_138_13 rfl rfl) ?_
  refine Eq.trans (X_iast f_138_14 h7 h9 kn_3 kl_3 h8) ?_
  exact mX_mask rfl
theorem e_138 {d : Nat} {a0 : Nat} {w : MW} : mK d 138 [.ref a0] w = mX d 138 0 [.ref a0] [] w := rfl
theorem b_138_15 {d : Nat} {a0 : Nat} {w : MW} (h0 : mTg w a0 = 10) (h1 : mR w a0 7 = some (gR w a0 7)) (h2 : mTg w (gR w a0 7) = 50) (h3 : 3 < mLn w (gR w a0 7)) (h4 : mE ≤ (gR w a0 7)) : mX d 138 15 [.ref a0] [] w = mX d 138 25 [.ref a0] [] (wI w (gR w a0 7) 3 ((mI w (gR w a0 7) 3) + (nI 1))) := by
  refine Eq.trans (X_st f_138_15 rfl rfl) ?_
  refine Eq.trans (X_getR f_138_16 h0 rfl h1) ?_
  refine Eq.trans (X_iconst f_138_19 kc_i_3) ?_
  refine Eq.trans (X_dup2 f_138_20 rfl rfl) ?_
  refine Eq.trans (X_iald f_138_21 h2 kn_3 kl_3 h3) ?_
  refine Eq.trans (X_iconst f_138_22 kc_i_1) ?_
  refine Eq.trans (X_st f_138_23 rfl rfl) ?_
  refine Eq.trans (X_iast f_138_24 h2 h4 kn_3 kl_3 h3) ?_
  exact mX_mask rfl
theorem b_138_25 {d : Nat} {a0 : Nat} {w : MW} (h0 : mTg w a0 = 10) : mX (d + 1) 138 25 [.ref a0] [] w = mThen (mK d 142 [.ref a0] w) (fun v w9 => mX (d + 1) 138 29 [mJ] (v.toList ++ []) w9) := by
  refine Eq.trans (X_st f_138_25 rfl rfl) ?_
  refine Eq.trans (X_call f_138_26 (by decide) rfl rfl rfl rfl rfl rfl (Nat.le_of_ble_eq_true rfl) (Nat.le_of_ble_eq_true rfl) (decide_eq_true h0) (Nat.le_of_ble_eq_true rfl)) ?_
  exact mThen_eq fun v w9 => mX_mask rfl
theorem b_138_29 {d : Nat} {w : MW} : mX d 138 29 [mJ] [] w = some (.inl none, w) := by
  exact X_ret f_138_29 rfl rfl
/-! BeeTurnpikeLaw$Sim isPassed ()Z -/
theorem f_139_0 : mFetch 139 0 = some (.aload_n 0, 1, []) := by decide +kernel
theorem f_139_1 : mFetch 139 1 = some (.getfield 46, 3, [10, 17, 0, 1356]) := by decide +kernel
theorem f_139_4 : mFetch 139 4 = some (.astore_n 1, 1, []) := by decide +kernel
theorem f_139_5 : mFetch 139 5 = some (.aload_n 1, 1, []) := by decide +kernel
theorem f_139_6 : mFetch 139 6 = some (.arraylength, 1, []) := by decide +kernel
theorem f_139_7 : mFetch 139 7 = some (.istore_n 2, 1, []) := by decide +kernel
theorem f_139_8 : mFetch 139 8 = some (.iconst 0, 1, []) := by decide +kernel
theorem f_139_9 : mFetch 139 9 = some (.istore_n 3, 1, []) := by decide +kernel
theorem f_139_10 : mFetch 139 10 = some (.iload_n 3, 1, []) := by decide +kernel
theorem f_139_11 : mFetch 139 11 = some (.iload_n 2, 1, []) := by decide +kernel
theorem f_139_12 : mFetch 139 12 = some (.if_icmp .ge 80, 3, [92]) := by decide +kernel
theorem f_139_15 : mFetch 139 15 = some (.aload_n 1, 1, []) := by decide +kernel
theorem f_139_16 : mFetch 139 16 = some (.iload_n 3, 1, []) := by decide +kernel
theorem f_139_17 : mFetch 139 17 = some (.aaload, 1, []) := by decide +kernel
theorem f_139_18 : mFetch 139 18 = some (.astore 4, 2, []) := by decide +kernel
theorem f_139_20 : mFetch 139 20 = some (.aload 4, 2, []) := by decide +kernel
theorem f_139_22 : mFetch 139 22 = some (.iconst 1, 1, []) := by decide +kernel
theorem f_139_23 : mFetch 139 23 = some (.iaload, 1, []) := by decide +kernel
theorem f_139_24 : mFetch 139 24 = some (.aload_n 0, 1, []) := by decide +kernel
theorem f_139_25 : mFetch 139 25 = some (.getfield 65, 3, [10, 4, 0, 1334]) := by decide +kernel
theorem f_139_28 : mFetch 139 28 = some (.if_icmp .ne 58, 3, [86]) := by decide +kernel
theorem f_139_31 : mFetch 139 31 = some (.aload 4, 2, []) := by decide +kernel
theorem f_139_33 : mFetch 139 33 = some (.iconst 0, 1, []) := by decide +kernel
theorem f_139_34 : mFetch 139 34 = some (.iaload, 1, []) := by decide +kernel
theorem f_139_35 : mFetch 139 35 = some (.iconst 2, 1, []) := by decide +kernel
theorem f_139_36 : mFetch 139 36 = some (.if_icmp .eq 50, 3, [86]) := by decide +kernel
theorem f_139_39 : mFetch 139 39 = some (.aload_n 0, 1, []) := by decide +kernel
theorem f_139_40 : mFetch 139 40 = some (.aload 4, 2, []) := by decide +kernel
theorem f_139_42 : mFetch 139 42 = some (.invokevirtual 111, 3, [134, 2, 2, 10, 835, 836, 837]) := by decide +kernel
theorem f_139_45 : mFetch 139 45 = some (.ifCond .ne 6, 3, [51]) := by decide +kernel
theorem f_139_48 : mFetch 139 48 = some (.goto 38, 3, [86]) := by decide +kernel
theorem f_139_51 : mFetch 139 51 = some (.aload 4, 2, []) := by decide +kernel
theorem f_139_53 : mFetch 139 53 = some (.iconst 0, 1, []) := by decide +kernel
theorem f_139_54 : mFetch 139 54 = some (.iaload, 1, []) := by decide +kernel
theorem f_139_55 : mFetch 139 55 = some (.ifCond .ne 14, 3, [69]) := by decide +kernel
theorem f_139_58 : mFetch 139 58 = some (.aload_n 0, 1, []) := by decide +kernel
theorem f_139_59 : mFetch 139 59 = some (.invokevirtual 115, 3, [135, 1, 2, 10, 864, 865, 866]) := by decide +kernel
theorem f_139_62 : mFetch 139 62 = some (.ifCond .eq 7, 3, [69]) := by decide +kernel
theorem f_139_65 : mFetch 139 65 = some (.aload_n 0, 1, []) := by decide +kernel
theorem f_139_66 : mFetch 139 66 = some (.invokevirtual 119, 3, [136, 1, 2, 10, 868, 869, 870]) := by decide +kernel
theorem f_139_69 : mFetch 139 69 = some (.aload 4, 2, []) := by decide +kernel
theorem f_139_71 : mFetch 139 71 = some (.iconst 0, 1, []) := by decide +kernel
theorem f_139_72 : mFetch 139 72 = some (.iaload, 1, []) := by decide +kernel
theorem f_139_73 : mFetch 139 73 = some (.iconst 1, 1, []) := by decide +kernel
theorem f_139_74 : mFetch 139 74 = some (.if_icmp .ne 12, 3, [86]) := by decide +kernel
theorem f_139_77 : mFetch 139 77 = some (.aload_n 0, 1, []) := by decide +kernel
theorem f_139_78 : mFetch 139 78 = some (.invokevirtual 122, 3, [137, 1, 2, 10, 872, 873, 874]) := by decide +kernel
theorem f_139_81 : mFetch 139 81 = some (.ifCond .eq 5, 3, [86]) := by decide +kernel
theorem f_139_84 : mFetch 139 84 = some (.iconst 1, 1, []) := by decide +kernel
theorem f_139_85 : mFetch 139 85 = some (.ireturn, 1, [2]) := by decide +kernel
theorem f_139_86 : mFetch 139 86 = some (.iinc 3 1, 3, []) := by decide +kernel
theorem f_139_89 : mFetch 139 89 = some (.goto (-79), 3, [10]) := by decide +kernel
theorem f_139_92 : mFetch 139 92 = some (.iconst 0, 1, []) := by decide +kernel
theorem f_139_93 : mFetch 139 93 = some (.ireturn, 1, [2]) := by decide +kernel
theorem b_139_0 {d : Nat} {a0 : Nat} {w : MW} (h0 : mTg w a0 = 10) (h1 : mR w a0 17 = some (gR w a0 17)) (h2 : 50 ≤ mTg w (gR w a0 17) ∧ mTg w (gR w a0 17) < 55) : mX d 139 0 [.ref a0, mJ, mJ, mJ, mJ] [] w = mX d 139 10 [.ref a0, .ref (gR w a0 17), .int (nI (mLn w (gR w a0 17))), .int (nI 0), mJ] [] w := by
  refine Eq.trans (X_st f_139_0 rfl rfl) ?_
  refine Eq.trans (X_getR f_139_1 h0 rfl h1) ?_
  refine Eq.trans (X_astore_n (L' := [.ref a0, .ref (gR w a0 17), mJ, mJ, mJ]) f_139_4 (Nat.le_of_ble_eq_true rfl) rfl) ?_
  refine Eq.trans (X_st f_139_5 rfl rfl) ?_
  refine Eq.trans (X_st f_139_6 rfl (if_pos h2)) ?_
  refine Eq.trans (X_istore_n (L' := [.ref a0, .ref (gR w a0 17), .int (nI (mLn w (gR w a0 17))), mJ, mJ]) f_139_7 (Nat.le_of_ble_eq_true rfl) rfl) ?_
  refine Eq.trans (X_iconst f_139_8 kc_i_0) ?_
  refine Eq.trans (X_istore_n (L' := [.ref a0, .ref (gR w a0 17), .int (nI (mLn w (gR w a0 17))), .int (nI 0), mJ]) f_139_9 (Nat.le_of_ble_eq_true rfl) rfl) ?_
  exact mX_mask rfl
theorem e_139 {d : Nat} {a0 : Nat} {w : MW} : mK d 139 [.ref a0] w = mX d 139 0 [.ref a0, mJ, mJ, mJ, mJ] [] w := rfl
theorem b_139_10 {d : Nat} {a0 : Nat} {a1 : Nat} {x2 : Int32} {x3 : Int32} {w : MW} : mX d 139 10 [.ref a0, .ref a1, .int x2, .int x3, mJ] [] w = (if x2 ≤ x3 then mX d 139 92 [mJ, mJ, mJ, mJ, mJ] [] w else mX d 139 15 [.ref a0, .ref a1, .int x2, .int x3, mJ] [] w) := by
  refine Eq.trans (X_st f_139_10 rfl rfl) ?_
  refine Eq.trans (X_st f_139_11 rfl rfl) ?_
  refine Eq.trans (X_br f_139_12 rfl rfl) ?_
  exact mIte_eq (mX_mask rfl) (mX_mask rfl)
theorem b_139_15 {d : Nat} {a0 : Nat} {a1 : Nat} {x2 : Int32} {x3 : Nat} {w : MW} (h0 : 52 ≤ mTg w a1 ∧ mTg w a1 < 55) (h1 : x3 < 2147483648) (h2 : x3 < mLn w a1) (h3 : mR w a1 x3 = some (gR w a1 x3)) (h4 : mTg w (gR w a1 x3) = 50) (h5 : 1 < mLn w (gR w a1 x3)) (h6 : mTg w a0 = 10) : mX d 139 15 [.ref a0, .ref a1, .int x2, .int (nI x3), mJ] [] w = (if ¬ (mI w (gR w a1 x3) 1) = (mI w a0 4) then mX d 139 86 [.ref a0, .ref a1, .int x2, .int (nI x3), mJ] [] w else mX d 139 31 [.ref a0, .ref a1, .int x2, .int (nI x3), .ref (gR w a1 x3)] [] w) := by
  refine Eq.trans (X_st f_139_15 rfl rfl) ?_
  refine Eq.trans (X_st f_139_16 rfl rfl) ?_
  refine Eq.trans (X_aald f_139_17 h0 (jnn h1) (jcl h1) h2 h3) ?_
  refine Eq.trans (X_astore (L' := [.ref a0, .ref a1, .int x2, .int (nI x3), .ref (gR w a1 x3)]) f_139_18 (Nat.le_of_ble_eq_true rfl) rfl) ?_
  refine Eq.trans (X_st f_139_20 rfl rfl) ?_
  refine Eq.trans (X_iconst f_139_22 kc_i_1) ?_
  refine Eq.trans (X_iald f_139_23 h4 kn_1 kl_1 h5) ?_
  refine Eq.trans (X_st f_139_24 rfl rfl) ?_
  refine Eq.trans (X_getI f_139_25 h6 rfl) ?_
  refine Eq.trans (X_br f_139_28 rfl rfl) ?_
  exact mIte_eq (mX_mask rfl) (mX_mask rfl)
theorem b_139_31 {d : Nat} {a0 : Nat} {a1 : Nat} {x2 : Int32} {x3 : Int32} {a4 : Nat} {w : MW} (h0 : mTg w a4 = 50) (h1 : 0 < mLn w a4) : mX d 139 31 [.ref a0, .ref a1, .int x2, .int x3, .ref a4] [] w = (if (mI w a4 0) = (nI 2) then mX d 139 86 [.ref a0, .ref a1, .int x2, .int x3, mJ] [] w else mX d 139 39 [.ref a0, .ref a1, .int x2, .int x3, .ref a4] [] w) := by
  refine Eq.trans (X_st f_139_31 rfl rfl) ?_
  refine Eq.trans (X_iconst f_139_33 kc_i_0) ?_
  refine Eq.trans (X_iald f_139_34 h0 kn_0 kl_0 h1) ?_
  refine Eq.trans (X_iconst f_139_35 kc_i_2) ?_
  refine Eq.trans (X_br f_139_36 rfl rfl) ?_
  exact mIte_eq (mX_mask rfl) (mX_mask rfl)
theorem b_139_39 {d : Nat} {a0 : Nat} {a1 : Nat} {x2 : Int32} {x3 : Int32} {a4 : Nat} {w : MW} (h0 : mTg w a0 = 10) : mX (d + 1) 139 39 [.ref a0, .ref a1, .int x2, .int x3, .ref a4] [] w = mThen (mK d 134 [.ref a0, .ref a4] w) (fun v w9 => mX (d + 1) 139 45 [.ref a0, .ref a1, .int x2, .int x3, .ref a4] (v.toList ++ []) w9) := by
  refine Eq.trans (X_st f_139_39 rfl rfl) ?_
  refine Eq.trans (X_st f_139_40 rfl rfl) ?_
  refine Eq.trans (X_call f_139_42 (by decide) rfl rfl rfl rfl rfl rfl (Nat.le_of_ble_eq_true rfl) (Nat.le_of_ble_eq_true rfl) (decide_eq_true h0) (Nat.le_of_ble_eq_true rfl)) ?_
  exact mThen_eq fun v w9 => mX_mask rfl
theorem b_139_45 {d : Nat} {a0 : Nat} {a1 : Nat} {x2 : Int32} {x3 : Int32} {a4 : Nat} {y0 : Int32} {w : MW} : mX d 139 45 [.ref a0, .ref a1, .int x2, .int x3, .ref a4] [.int y0] w = (if ¬ y0 = nI 0 then mX d 139 51 [.ref a0, .ref a1, .int x2, .int x3, .ref a4] [] w else mX d 139 48 [.ref a0, .ref a1, .int x2, .int x3, mJ] [] w) := by
  refine Eq.trans (X_br f_139_45 rfl rfl) ?_
  exact mIte_eq (mX_mask rfl) (mX_mask rfl)
theorem b_139_48 {d : Nat} {a0 : Nat} {a1 : Nat} {x2 : Int32} {x3 : Int32} {w : MW} : mX d 139 48 [.ref a0, .ref a1, .int x2, .int x3, mJ] [] w = mX d 139 86 [.ref a0, .ref a1, .int x2, .int x3, mJ] [] w := by
  refine Eq.trans (X_st f_139_48 rfl rfl) ?_
  exact mX_mask rfl
theorem b_139_51 {d : Nat} {a0 : Nat} {a1 : Nat} {x2 : Int32} {x3 : Int32} {a4 : Nat} {w : MW} (h0 : mTg w a4 = 50) (h1 : 0 < mLn w a4) : mX d 139 51 [.ref a0, .ref a1, .int x2, .int x3, .ref a4] [] w = (if ¬ (mI w a4 0) = nI 0 then mX d 139 69 [.ref a0, .ref a1, .int x2, .int x3, .ref a4] [] w else mX d 139 58 [.ref a0, .ref a1, .int x2, .int x3, .ref a4] [] w) := by
  refine Eq.trans (X_st f_139_51 rfl rfl) ?_
  refine Eq.trans (X_iconst f_139_53 kc_i_0) ?_
  refine Eq.trans (X_iald f_139_54 h0 kn_0 kl_0 h1) ?_
  refine Eq.trans (X_br f_139_55 rfl rfl) ?_
  exact mIte_eq (mX_mask rfl) (mX_mask rfl)
theorem b_139_58 {d : Nat} {a0 : Nat} {a1 : Nat} {x2 : Int32} {x3 : Int32} {a4 : Nat} {w : MW} (h0 : mTg w a0 = 10) : mX (d + 1) 139 58 [.ref a0, .ref a1, .int x2, .int x3, .ref a4] [] w = mThen (mK d 135 [.ref a0] w) (fun v w9 => mX (d + 1) 139 62 [.ref a0, .ref a1, .int x2, .int x3, .ref a4] (v.toList ++ []) w9) := by
  refine Eq.trans (X_st f_139_58 rfl rfl) ?_
  refine Eq.trans (X_call f_139_59 (by decide) rfl rfl rfl rfl rfl rfl (Nat.le_of_ble_eq_true rfl) (Nat.le_of_ble_eq_true rfl) (decide_eq_true h0) (Nat.le_of_ble_eq_true rfl)) ?_
  exact mThen_eq fun v w9 => mX_mask rfl
theorem b_139_62 {d : Nat} {a0 : Nat} {a1 : Nat} {x2 : Int32} {x3 : Int32} {a4 : Nat} {y0 : Int32} {w : MW} : mX d 139 62 [.ref a0, .ref a1, .int x2, .int x3, .ref a4] [.int y0] w = (if y0 = nI 0 then mX d 139 69 [.ref a0, .ref a1, .int x2, .int x3, .ref a4] [] w else mX d 139 65 [.ref a0, .ref a1, .int x2, .int x3, .ref a4] [] w) := by
  refine Eq.trans (X_br f_139_62 rfl rfl) ?_
  exact mIte_eq (mX_mask rfl) (mX_mask rfl)
theorem b_139_65 {d : Nat} {a0 : Nat} {a1 : Nat} {x2 : Int32} {x3 : Int32} {a4 : Nat} {w : MW} (h0 : mTg w a0 = 10) : mX (d + 1) 139 65 [.ref a0, .ref a1, .int x2, .int x3, .ref a4] [] w = mThen (mK d 136 [.ref a0] w) (fun v w9 => mX (d + 1) 139 69 [.ref a0, .ref a1, .int x2, .int x3, .ref a4] (v.toList ++ []) w9) := by
  refine Eq.trans (X_st f_139_65 rfl rfl) ?_
  refine Eq.trans (X_call f_139_66 (by decide) rfl rfl rfl rfl rfl rfl (Nat.le_of_ble_eq_true rfl) (Nat.le_of_ble_eq_true rfl) (decide_eq_true h0) (Nat.le_of_ble_eq_true rfl)) ?_
  exact mThen_eq fun v w9 => mX_mask rfl
theorem b_139_69 {d : Nat} {a0 : Nat} {a1 : Nat} {x2 : Int32} {x3 : Int32} {a4 : Nat} {w : MW} (h0 : mTg w a4 = 50) (h1 : 0 < mLn w a4) : mX d 139 69 [.ref a0, .ref a1, .int x2, .int x3, .ref a4] [] w = (if ¬ (mI w a4 0) = (nI 1) then mX d 139 86 [.ref a0, .ref a1, .int x2, .int x3, mJ] [] w else mX d 139 77 [.ref a0, .ref a1, .int x2, .int x3, mJ] [] w) := by
  refine Eq.trans (X_st f_139_69 rfl rfl) ?_
  refine Eq.trans (X_iconst f_139_71 kc_i_0) ?_
  refine Eq.trans (X_iald f_139_72 h0 kn_0 kl_0 h1) ?_
  refine Eq.trans (X_iconst f_139_73 kc_i_1) ?_
  refine Eq.trans (X_br f_139_74 rfl rfl) ?_
  exact mIte_eq (mX_mask rfl) (mX_mask rfl)
theorem b_139_77 {d : Nat} {a0 : Nat} {a1 : Nat} {x2 : Int32} {x3 : Int32} {w : MW} (h0 : mTg w a0 = 10) : mX (d + 1) 139 77 [.ref a0, .ref a1, .int x2, .int x3, mJ] [] w = mThen (mK d 137 [.ref a0] w) (fun v w9 => mX (d + 1) 139 81 [.ref a0, .ref a1, .int x2, .int x3, mJ] (v.toList ++ []) w9) := by
  refine Eq.trans (X_st f_139_77 rfl rfl) ?_
  refine Eq.trans (X_call f_139_78 (by decide) rfl rfl rfl rfl rfl rfl (Nat.le_of_ble_eq_true rfl) (Nat.le_of_ble_eq_true rfl) (decide_eq_true h0) (Nat.le_of_ble_eq_true rfl)) ?_
  exact mThen_eq fun v w9 => mX_mask rfl
theorem b_139_81 {d : Nat} {a0 : Nat} {a1 : Nat} {x2 : Int32} {x3 : Int32} {y0 : Int32} {w : MW} : mX d 139 81 [.ref a0, .ref a1, .int x2, .int x3, mJ] [.int y0] w = (if y0 = nI 0 then mX d 139 86 [.ref a0, .ref a1, .int x2, .int x3, mJ] [] w else mX d 139 84 [mJ, mJ, mJ, mJ, mJ] [] w) := by
  refine Eq.trans (X_br f_139_81 rfl rfl) ?_
  exact mIte_eq (mX_mask rfl) (mX_mask rfl)
theorem b_139_84 {d : Nat} {w : MW} : mX d 139 84 [mJ, mJ, mJ, mJ, mJ] [] w = some (.inl (some (.int (nI 1))), w) := by
  refine Eq.trans (X_iconst f_139_84 kc_i_1) ?_
  exact X_ireturn f_139_85 rfl
theorem b_139_86 {d : Nat} {a0 : Nat} {a1 : Nat} {x2 : Int32} {x3 : Int32} {w : MW} : mX d 139 86 [.ref a0, .ref a1, .int x2, .int x3, mJ] [] w = mX d 139 10 [.ref a0, .ref a1, .int x2, .int (x3 + (nI 1)), mJ] [] w := by
  refine Eq.trans (X_iinc f_139_86 kc_i_1 rfl rfl) ?_
  refine Eq.trans (X_st f_139_89 rfl rfl) ?_
  exact mX_mask rfl
theorem b_139_92 {d : Nat} {w : MW} : mX d 139 92 [mJ, mJ, mJ, mJ, mJ] [] w = some (.inl (some (.int (nI 0))), w) := by
  refine Eq.trans (X_iconst f_139_92 kc_i_0) ?_
  exact X_ireturn f_139_93 rfl
/-! BeeTurnpikeLaw$Sim appeal (I)I -/
theorem f_140_0 : mFetch 140 0 = some (.aload_n 0, 1, []) := by decide +kernel
theorem f_140_1 : mFetch 140 1 = some (.getfield 46, 3, [10, 17, 0, 1356]) := by decide +kernel
theorem f_140_4 : mFetch 140 4 = some (.astore_n 2, 1, []) := by decide +kernel
theorem f_140_5 : mFetch 140 5 = some (.aload_n 2, 1, []) := by decide +kernel
theorem f_140_6 : mFetch 140 6 = some (.arraylength, 1, []) := by decide +kernel
theorem f_140_7 : mFetch 140 7 = some (.istore_n 3, 1, []) := by decide +kernel
theorem f_140_8 : mFetch 140 8 = some (.iconst 0, 1, []) := by decide +kernel
theorem f_140_9 : mFetch 140 9 = some (.istore 4, 2, []) := by decide +kernel
theorem f_140_11 : mFetch 140 11 = some (.iload 4, 2, []) := by decide +kernel
theorem f_140_13 : mFetch 140 13 = some (.iload_n 3, 1, []) := by decide +kernel
theorem f_140_14 : mFetch 140 14 = some (.if_icmp .ge 81, 3, [95]) := by decide +kernel
theorem f_140_17 : mFetch 140 17 = some (.aload_n 2, 1, []) := by decide +kernel
theorem f_140_18 : mFetch 140 18 = some (.iload 4, 2, []) := by decide +kernel
theorem f_140_20 : mFetch 140 20 = some (.aaload, 1, []) := by decide +kernel
theorem f_140_21 : mFetch 140 21 = some (.astore 5, 2, []) := by decide +kernel
theorem f_140_23 : mFetch 140 23 = some (.aload 5, 2, []) := by decide +kernel
theorem f_140_25 : mFetch 140 25 = some (.iconst 1, 1, []) := by decide +kernel
theorem f_140_26 : mFetch 140 26 = some (.iaload, 1, []) := by decide +kernel
theorem f_140_27 : mFetch 140 27 = some (.aload_n 0, 1, []) := by decide +kernel
theorem f_140_28 : mFetch 140 28 = some (.getfield 65, 3, [10, 4, 0, 1334]) := by decide +kernel
theorem f_140_31 : mFetch 140 31 = some (.if_icmp .ne 58, 3, [89]) := by decide +kernel
theorem f_140_34 : mFetch 140 34 = some (.aload 5, 2, []) := by decide +kernel
theorem f_140_36 : mFetch 140 36 = some (.iconst 0, 1, []) := by decide +kernel
theorem f_140_37 : mFetch 140 37 = some (.iaload, 1, []) := by decide +kernel
theorem f_140_38 : mFetch 140 38 = some (.iconst 2, 1, []) := by decide +kernel
theorem f_140_39 : mFetch 140 39 = some (.if_icmp .ne 50, 3, [89]) := by decide +kernel
theorem f_140_42 : mFetch 140 42 = some (.aload_n 0, 1, []) := by decide +kernel
theorem f_140_43 : mFetch 140 43 = some (.getfield 31, 3, [10, 12, 0, 1346]) := by decide +kernel
theorem f_140_46 : mFetch 140 46 = some (.aload_n 0, 1, []) := by decide +kernel
theorem f_140_47 : mFetch 140 47 = some (.getfield 65, 3, [10, 4, 0, 1334]) := by decide +kernel
theorem f_140_50 : mFetch 140 50 = some (.aaload, 1, []) := by decide +kernel
theorem f_140_51 : mFetch 140 51 = some (.iconst 4, 1, []) := by decide +kernel
theorem f_140_52 : mFetch 140 52 = some (.iaload, 1, []) := by decide +kernel
theorem f_140_53 : mFetch 140 53 = some (.ifCond .eq 36, 3, [89]) := by decide +kernel
theorem f_140_56 : mFetch 140 56 = some (.aload_n 0, 1, []) := by decide +kernel
theorem f_140_57 : mFetch 140 57 = some (.aload 5, 2, []) := by decide +kernel
theorem f_140_59 : mFetch 140 59 = some (.invokevirtual 111, 3, [134, 2, 2, 10, 835, 836, 837]) := by decide +kernel
theorem f_140_62 : mFetch 140 62 = some (.ifCond .ne 6, 3, [68]) := by decide +kernel
theorem f_140_65 : mFetch 140 65 = some (.goto 24, 3, [89]) := by decide +kernel
theorem f_140_68 : mFetch 140 68 = some (.iload_n 1, 1, []) := by decide +kernel
theorem f_140_69 : mFetch 140 69 = some (.iconst 3, 1, []) := by decide +kernel
theorem f_140_70 : mFetch 140 70 = some (.if_icmp .ge 5, 3, [75]) := by decide +kernel
theorem f_140_73 : mFetch 140 73 = some (.iconst 1, 1, []) := by decide +kernel
theorem f_140_74 : mFetch 140 74 = some (.ireturn, 1, [0]) := by decide +kernel
theorem f_140_75 : mFetch 140 75 = some (.aload_n 0, 1, []) := by decide +kernel
theorem f_140_76 : mFetch 140 76 = some (.getfield 31, 3, [10, 12, 0, 1346]) := by decide +kernel
theorem f_140_79 : mFetch 140 79 = some (.aload_n 0, 1, []) := by decide +kernel
theorem f_140_80 : mFetch 140 80 = some (.getfield 65, 3, [10, 4, 0, 1334]) := by decide +kernel
theorem f_140_83 : mFetch 140 83 = some (.aaload, 1, []) := by decide +kernel
theorem f_140_84 : mFetch 140 84 = some (.iconst 4, 1, []) := by decide +kernel
theorem f_140_85 : mFetch 140 85 = some (.iconst 0, 1, []) := by decide +kernel
theorem f_140_86 : mFetch 140 86 = some (.iastore, 1, []) := by decide +kernel
theorem f_140_87 : mFetch 140 87 = some (.iconst (-1), 1, []) := by decide +kernel
theorem f_140_88 : mFetch 140 88 = some (.ireturn, 1, [0]) := by decide +kernel
theorem f_140_89 : mFetch 140 89 = some (.iinc 4 1, 3, []) := by decide +kernel
theorem f_140_92 : mFetch 140 92 = some (.goto (-81), 3, [11]) := by decide +kernel
theorem f_140_95 : mFetch 140 95 = some (.iconst 0, 1, []) := by decide +kernel
theorem f_140_96 : mFetch 140 96 = some (.ireturn, 1, [0]) := by decide +kernel
theorem b_140_0 {d : Nat} {a0 : Nat} {x1 : Int32} {w : MW} (h0 : mTg w a0 = 10) (h1 : mR w a0 17 = some (gR w a0 17)) (h2 : 50 ≤ mTg w (gR w a0 17) ∧ mTg w (gR w a0 17) < 55) : mX d 140 0 [.ref a0, .int x1, mJ, mJ, mJ, mJ] [] w = mX d 140 11 [.ref a0, .int x1, .ref (gR w a0 17), .int (nI (mLn w (gR w a0 17))), .int (nI 0), mJ] [] w := by
  refine Eq.trans (X_st f_140_0 rfl rfl) ?_
  refine Eq.trans (X_getR f_140_1 h0 rfl h1) ?_
  refine Eq.trans (X_astore_n (L' := [.ref a0, .int x1, .ref (gR w a0 17), mJ, mJ, mJ]) f_140_4 (Nat.le_of_ble_eq_true rfl) rfl) ?_
  refine Eq.trans (X_st f_140_5 rfl rfl) ?_
  refine Eq.trans (X_st f_140_6 rfl (if_pos h2)) ?_
  refine Eq.trans (X_istore_n (L' := [.ref a0, .int x1, .ref (gR w a0 17), .int (nI (mLn w (gR w a0 17))), mJ, mJ]) f_140_7 (Nat.le_of_ble_eq_true rfl) rfl) ?_
  refine Eq.trans (X_iconst f_140_8 kc_i_0) ?_
  refine Eq.trans (X_istore (L' := [.ref a0, .int x1, .ref (gR w a0 17), .int (nI (mLn w (gR w a0 17))), .int (nI 0), mJ]) f_140_9 (Nat.le_of_ble_eq_true rfl) rfl) ?_
  exact mX_mask rfl
theorem e_140 {d : Nat} {a0 : Nat} {x1 : Int32} {w : MW} : mK d 140 [.ref a0, .int x1] w = mX d 140 0 [.ref a0, .int x1, mJ, mJ, mJ, mJ] [] w := rfl
theorem b_140_11 {d : Nat} {a0 : Nat} {x1 : Int32} {a2 : Nat} {x3 : Int32} {x4 : Int32} {w : MW} : mX d 140 11 [.ref a0, .int x1, .ref a2, .int x3, .int x4, mJ] [] w = (if x3 ≤ x4 then mX d 140 95 [mJ, mJ, mJ, mJ, mJ, mJ] [] w else mX d 140 17 [.ref a0, .int x1, .ref a2, .int x3, .int x4, mJ] [] w) := by
  refine Eq.trans (X_st f_140_11 rfl rfl) ?_
  refine Eq.trans (X_st f_140_13 rfl rfl) ?_
  refine Eq.trans (X_br f_140_14 rfl rfl) ?_
  exact mIte_eq (mX_mask rfl) (mX_mask rfl)
theorem b_140_17 {d : Nat} {a0 : Nat} {x1 : Int32} {a2 : Nat} {x3 : Int32} {x4 : Nat} {w : MW} (h0 : 52 ≤ mTg w a2 ∧ mTg w a2 < 55) (h1 : x4 < 2147483648) (h2 : x4 < mLn w a2) (h3 : mR w a2 x4 = some (gR w a2 x4)) (h4 : mTg w (gR w a2 x4) = 50) (h5 : 1 < mLn w (gR w a2 x4)) (h6 : mTg w a0 = 10) : mX d 140 17 [.ref a0, .int x1, .ref a2, .int x3, .int (nI x4), mJ] [] w = (if ¬ (mI w (gR w a2 x4) 1) = (mI w a0 4) then mX d 140 89 [.ref a0, .int x1, .ref a2, .int x3, .int (nI x4), mJ] [] w else mX d 140 34 [.ref a0, .int x1, .ref a2, .int x3, .int (nI x4), .ref (gR w a2 x4)] [] w) := by
  refine Eq.trans (X_st f_140_17 rfl rfl) ?_
  refine Eq.trans (X_st f_140_18 rfl rfl) ?_
  refine Eq.trans (X_aald f_140_20 h0 (jnn h1) (jcl h1) h2 h3) ?_
  refine Eq.trans (X_astore (L' := [.ref a0, .int x1, .ref a2, .int x3, .int (nI x4), .ref (gR w a2 x4)]) f_140_21 (Nat.le_of_ble_eq_true rfl) rfl) ?_
  refine Eq.trans (X_st f_140_23 rfl rfl) ?_
  refine Eq.trans (X_iconst f_140_25 kc_i_1) ?_
  refine Eq.trans (X_iald f_140_26 h4 kn_1 kl_1 h5) ?_
  refine Eq.trans (X_st f_140_27 rfl rfl) ?_
  refine Eq.trans (X_getI f_140_28 h6 rfl) ?_
  refine Eq.trans (X_br f_140_31 rfl rfl) ?_
  exact mIte_eq (mX_mask rfl) (mX_mask rfl)
theorem b_140_34 {d : Nat} {a0 : Nat} {x1 : Int32} {a2 : Nat} {x3 : Int32} {x4 : Int32} {a5 : Nat} {w : MW} (h0 : mTg w a5 = 50) (h1 : 0 < mLn w a5) : mX d 140 34 [.ref a0, .int x1, .ref a2, .int x3, .int x4, .ref a5] [] w = (if ¬ (mI w a5 0) = (nI 2) then mX d 140 89 [.ref a0, .int x1, .ref a2, .int x3, .int x4, mJ] [] w else mX d 140 42 [.ref a0, .int x1, .ref a2, .int x3, .int x4, .ref a5] [] w) := by
  refine Eq.trans (X_st f_140_34 rfl rfl) ?_
  refine Eq.trans (X_iconst f_140_36 kc_i_0) ?_
  refine Eq.trans (X_iald f_140_37 h0 kn_0 kl_0 h1) ?_
  refine Eq.trans (X_iconst f_140_38 kc_i_2) ?_
  refine Eq.trans (X_br f_140_39 rfl rfl) ?_
  exact mIte_eq (mX_mask rfl) (mX_mask rfl)
theorem b_140_42 {d : Nat} {a0 : Nat} {x1 : Int32} {a2 : Nat} {x3 : Int32} {x4 : Int32} {a5 : Nat} {z0 : Nat} {w : MW} (h0 : mTg w a0 = 10) (h1 : mR w a0 12 = some (gR w a0 12)) (h2 : 52 ≤ mTg w (gR w a0 12) ∧ mTg w (gR w a0 12) < 55) (h3 : (mI w a0 4) = nI z0) (h4 : z0 < 2147483648) (h5 : z0 < mLn w (gR w a0 12)) (h6 : mR w (gR w a0 12) z0 = some (gR w (gR w a0 12) z0)) (h7 : mTg w (gR w (gR w a0 12) z0) = 50) (h8 : 4 < mLn w (gR w (gR w a0 12) z0)) : mX d 140 42 [.ref a0, .int x1, .ref a2, .int x3, .int x4, .ref a5] [] w = (if (mI w (gR w (gR w a0 12) z0) 4) = nI 0 then mX d 140 89 [.ref a0, .int x1, .ref a2, .int x3, .int x4, mJ] [] w else mX d 140 56 [.ref a0, .int x1, .ref a2, .int x3, .int x4, .ref a5] [] w) := by
  refine Eq.trans (X_st f_140_42 rfl rfl) ?_
  refine Eq.trans (X_getR f_140_43 h0 rfl h1) ?_
  refine Eq.trans (X_st f_140_46 rfl rfl) ?_
  refine Eq.trans (X_getI f_140_47 h0 rfl) ?_
  refine Eq.trans (X_aald f_140_50 h2 (jnnE h3 h4) (jclE h3 h4) h5 h6) ?_
  refine Eq.trans (X_iconst f_140_51 kc_i_4) ?_
  refine Eq.trans (X_iald f_140_52 h7 kn_4 kl_4 h8) ?_
  refine Eq.trans (X_br f_140_53 rfl rfl) ?_
  exact mIte_eq (mX_mask rfl) (mX_mask rfl)
theorem b_140_56 {d : Nat} {a0 : Nat} {x1 : Int32} {a2 : Nat} {x3 : Int32} {x4 : Int32} {a5 : Nat} {w : MW} (h0 : mTg w a0 = 10) : mX (d + 1) 140 56 [.ref a0, .int x1, .ref a2, .int x3, .int x4, .ref a5] [] w = mThen (mK d 134 [.ref a0, .ref a5] w) (fun v w9 => mX (d + 1) 140 62 [.ref a0, .int x1, .ref a2, .int x3, .int x4, mJ] (v.toList ++ []) w9) := by
  refine Eq.trans (X_st f_140_56 rfl rfl) ?_
  refine Eq.trans (X_st f_140_57 rfl rfl) ?_
  refine Eq.trans (X_call f_140_59 (by decide) rfl rfl rfl rfl rfl rfl (Nat.le_of_ble_eq_true rfl) (Nat.le_of_ble_eq_true rfl) (decide_eq_true h0) (Nat.le_of_ble_eq_true rfl)) ?_
  exact mThen_eq fun v w9 => mX_mask rfl
theorem b_140_62 {d : Nat} {a0 : Nat} {x1 : Int32} {a2 : Nat} {x3 : Int32} {x4 : Int32} {y0 : Int32} {w : MW} : mX d 140 62 [.ref a0, .int x1, .ref a2, .int x3, .int x4, mJ] [.int y0] w = (if ¬ y0 = nI 0 then mX d 140 68 [.ref a0, .int x1, mJ, mJ, mJ, mJ] [] w else mX d 140 65 [.ref a0, .int x1, .ref a2, .int x3, .int x4, mJ] [] w) := by
  refine Eq.trans (X_br f_140_62 rfl rfl) ?_
  exact mIte_eq (mX_mask rfl) (mX_mask rfl)
theorem b_140_65 {d : Nat} {a0 : Nat} {x1 : Int32} {a2 : Nat} {x3 : Int32} {x4 : Int32} {w : MW} : mX d 140 65 [.ref a0, .int x1, .ref a2, .int x3, .int x4, mJ] [] w = mX d 140 89 [.ref a0, .int x1, .ref a2, .int x3, .int x4, mJ] [] w := by
  refine Eq.trans (X_st f_140_65 rfl rfl) ?_
  exact mX_mask rfl
theorem b_140_68 {d : Nat} {a0 : Nat} {x1 : Int32} {w : MW} : mX d 140 68 [.ref a0, .int x1, mJ, mJ, mJ, mJ] [] w = (if (nI 3) ≤ x1 then mX d 140 75 [.ref a0, mJ, mJ, mJ, mJ, mJ] [] w else mX d 140 73 [mJ, mJ, mJ, mJ, mJ, mJ] [] w) := by
  refine Eq.trans (X_st f_140_68 rfl rfl) ?_
  refine Eq.trans (X_iconst f_140_69 kc_i_3) ?_
  refine Eq.trans (X_br f_140_70 rfl rfl) ?_
  exact mIte_eq (mX_mask rfl) (mX_mask rfl)
theorem b_140_73 {d : Nat} {w : MW} : mX d 140 73 [mJ, mJ, mJ, mJ, mJ, mJ] [] w = some (.inl (some (.int (nI 1))), w) := by
  refine Eq.trans (X_iconst f_140_73 kc_i_1) ?_
  exact X_ireturn f_140_74 rfl
theorem b_140_75 {d : Nat} {a0 : Nat} {z0 : Nat} {w : MW} (h0 : mTg w a0 = 10) (h1 : mR w a0 12 = some (gR w a0 12)) (h2 : 52 ≤ mTg w (gR w a0 12) ∧ mTg w (gR w a0 12) < 55) (h3 : (mI w a0 4) = nI z0) (h4 : z0 < 2147483648) (h5 : z0 < mLn w (gR w a0 12)) (h6 : mR w (gR w a0 12) z0 = some (gR w (gR w a0 12) z0)) (h7 : mTg w (gR w (gR w a0 12) z0) = 50) (h8 : mE ≤ (gR w (gR w a0 12) z0)) (h9 : 4 < mLn w (gR w (gR w a0 12) z0)) : mX d 140 75 [.ref a0, mJ, mJ, mJ, mJ, mJ] [] w = mX d 140 87 [mJ, mJ, mJ, mJ, mJ, mJ] [] (wI w (gR w (gR w a0 12) z0) 4 (nI 0)) := by
  refine Eq.trans (X_st f_140_75 rfl rfl) ?_
  refine Eq.trans (X_getR f_140_76 h0 rfl h1) ?_
  refine Eq.trans (X_st f_140_79 rfl rfl) ?_
  refine Eq.trans (X_getI f_140_80 h0 rfl) ?_
  refine Eq.trans (X_aald f_140_83 h2 (jnnE h3 h4) (jclE h3 h4) h5 h6) ?_
  refine Eq.trans (X_iconst f_140_84 kc_i_4) ?_
  refine Eq.trans (X_iconst f_140_85 kc_i_0) ?_
  refine Eq.trans (X_iast f_140_86 h7 h8 kn_4 kl_4 h9) ?_
  exact mX_mask rfl
theorem b_140_87 {d : Nat} {w : MW} : mX d 140 87 [mJ, mJ, mJ, mJ, mJ, mJ] [] w = some (.inl (some (.int (-1 : Int32))), w) := by
  refine Eq.trans (X_iconst f_140_87 kc_i_m1) ?_
  exact X_ireturn f_140_88 rfl
theorem b_140_89 {d : Nat} {a0 : Nat} {x1 : Int32} {a2 : Nat} {x3 : Int32} {x4 : Int32} {w : MW} : mX d 140 89 [.ref a0, .int x1, .ref a2, .int x3, .int x4, mJ] [] w = mX d 140 11 [.ref a0, .int x1, .ref a2, .int x3, .int (x4 + (nI 1)), mJ] [] w := by
  refine Eq.trans (X_iinc f_140_89 kc_i_1 rfl rfl) ?_
  refine Eq.trans (X_st f_140_92 rfl rfl) ?_
  exact mX_mask rfl
theorem b_140_95 {d : Nat} {w : MW} : mX d 140 95 [mJ, mJ, mJ, mJ, mJ, mJ] [] w = some (.inl (some (.int (nI 0))), w) := by
  refine Eq.trans (X_iconst f_140_95 kc_i_0) ?_
  exact X_ireturn f_140_96 rfl
/-! BeeTurnpikeLaw$Sim spell ()V -/
theorem f_141_0 : mFetch 141 0 = some (.aload_n 0, 1, []) := by decide +kernel
theorem f_141_1 : mFetch 141 1 = some (.invokevirtual 83, 3, [129, 1, 2, 10, 843, 844, 845]) := by decide +kernel
theorem f_141_4 : mFetch 141 4 = some (.istore_n 1, 1, []) := by decide +kernel
theorem f_141_5 : mFetch 141 5 = some (.aload_n 0, 1, []) := by decide +kernel
theorem f_141_6 : mFetch 141 6 = some (.aload_n 0, 1, []) := by decide +kernel
theorem f_141_7 : mFetch 141 7 = some (.getfield 65, 3, [10, 4, 0, 1334]) := by decide +kernel
theorem f_141_10 : mFetch 141 10 = some (.invokevirtual 102, 3, [131, 2, 2, 10, 839, 840, 841]) := by decide +kernel
theorem f_141_13 : mFetch 141 13 = some (.istore_n 2, 1, []) := by decide +kernel
theorem f_141_14 : mFetch 141 14 = some (.aload_n 0, 1, []) := by decide +kernel
theorem f_141_15 : mFetch 141 15 = some (.getfield 31, 3, [10, 12, 0, 1346]) := by decide +kernel
theorem f_141_18 : mFetch 141 18 = some (.aload_n 0, 1, []) := by decide +kernel
theorem f_141_19 : mFetch 141 19 = some (.getfield 65, 3, [10, 4, 0, 1334]) := by decide +kernel
theorem f_141_22 : mFetch 141 22 = some (.aaload, 1, []) := by decide +kernel
theorem f_141_23 : mFetch 141 23 = some (.astore_n 3, 1, []) := by decide +kernel
theorem f_141_24 : mFetch 141 24 = some (.aload_n 0, 1, []) := by decide +kernel
theorem f_141_25 : mFetch 141 25 = some (.getfield 28, 3, [10, 11, 0, 1344]) := by decide +kernel
theorem f_141_28 : mFetch 141 28 = some (.iload_n 1, 1, []) := by decide +kernel
theorem f_141_29 : mFetch 141 29 = some (.aaload, 1, []) := by decide +kernel
theorem f_141_30 : mFetch 141 30 = some (.iconst 0, 1, []) := by decide +kernel
theorem f_141_31 : mFetch 141 31 = some (.dup2, 1, []) := by decide +kernel
theorem f_141_32 : mFetch 141 32 = some (.iaload, 1, []) := by decide +kernel
theorem f_141_33 : mFetch 141 33 = some (.iconst 1, 1, []) := by decide +kernel
theorem f_141_34 : mFetch 141 34 = some (.iadd, 1, []) := by decide +kernel
theorem f_141_35 : mFetch 141 35 = some (.iastore, 1, []) := by decide +kernel
theorem f_141_36 : mFetch 141 36 = some (.iload_n 2, 1, []) := by decide +kernel
theorem f_141_37 : mFetch 141 37 = some (.ifCond .le 11, 3, [48]) := by decide +kernel
theorem f_141_40 : mFetch 141 40 = some (.aload_n 0, 1, []) := by decide +kernel
theorem f_141_41 : mFetch 141 41 = some (.iload_n 2, 1, []) := by decide +kernel
theorem f_141_42 : mFetch 141 42 = some (.invokevirtual 125, 3, [140, 2, 2, 10, 892, 894, 30]) := by decide +kernel
theorem f_141_45 : mFetch 141 45 = some (.goto 4, 3, [49]) := by decide +kernel
theorem f_141_48 : mFetch 141 48 = some (.iconst 0, 1, []) := by decide +kernel
theorem f_141_49 : mFetch 141 49 = some (.istore 4, 2, []) := by decide +kernel
theorem f_141_51 : mFetch 141 51 = some (.aload_n 0, 1, []) := by decide +kernel
theorem f_141_52 : mFetch 141 52 = some (.getfield 13, 3, [10, 7, 0, 1337]) := by decide +kernel
theorem f_141_55 : mFetch 141 55 = some (.iconst 4, 1, []) := by decide +kernel
theorem f_141_56 : mFetch 141 56 = some (.dup2, 1, []) := by decide +kernel
theorem f_141_57 : mFetch 141 57 = some (.iaload, 1, []) := by decide +kernel
theorem f_141_58 : mFetch 141 58 = some (.iload 4, 2, []) := by decide +kernel
theorem f_141_60 : mFetch 141 60 = some (.ifCond .le 7, 3, [67]) := by decide +kernel
theorem f_141_63 : mFetch 141 63 = some (.iconst 1, 1, []) := by decide +kernel
theorem f_141_64 : mFetch 141 64 = some (.goto 4, 3, [68]) := by decide +kernel
theorem f_141_67 : mFetch 141 67 = some (.iconst 0, 1, []) := by decide +kernel
theorem f_141_68 : mFetch 141 68 = some (.iadd, 1, []) := by decide +kernel
theorem f_141_69 : mFetch 141 69 = some (.iastore, 1, []) := by decide +kernel
theorem f_141_70 : mFetch 141 70 = some (.aload_n 0, 1, []) := by decide +kernel
theorem f_141_71 : mFetch 141 71 = some (.getfield 13, 3, [10, 7, 0, 1337]) := by decide +kernel
theorem f_141_74 : mFetch 141 74 = some (.iconst 5, 1, []) := by decide +kernel
theorem f_141_75 : mFetch 141 75 = some (.dup2, 1, []) := by decide +kernel
theorem f_141_76 : mFetch 141 76 = some (.iaload, 1, []) := by decide +kernel
theorem f_141_77 : mFetch 141 77 = some (.iload 4, 2, []) := by decide +kernel
theorem f_141_79 : mFetch 141 79 = some (.ifCond .ge 7, 3, [86]) := by decide +kernel
theorem f_141_82 : mFetch 141 82 = some (.iconst 1, 1, []) := by decide +kernel
theorem f_141_83 : mFetch 141 83 = some (.goto 4, 3, [87]) := by decide +kernel
theorem f_141_86 : mFetch 141 86 = some (.iconst 0, 1, []) := by decide +kernel
theorem f_141_87 : mFetch 141 87 = some (.iadd, 1, []) := by decide +kernel
theorem f_141_88 : mFetch 141 88 = some (.iastore, 1, []) := by decide +kernel
theorem f_141_89 : mFetch 141 89 = some (.aload_n 0, 1, []) := by decide +kernel
theorem f_141_90 : mFetch 141 90 = some (.dup, 1, []) := by decide +kernel
theorem f_141_91 : mFetch 141 91 = some (.getfield 62, 3, [10, 3, 0, 1332]) := by decide +kernel
theorem f_141_94 : mFetch 141 94 = some (.iconst 1, 1, []) := by decide +kernel
theorem f_141_95 : mFetch 141 95 = some (.iadd, 1, []) := by decide +kernel
theorem f_141_96 : mFetch 141 96 = some (.putfield 62, 3, [10, 3, 0, 1332]) := by decide +kernel
theorem f_141_99 : mFetch 141 99 = some (.iload_n 2, 1, []) := by decide +kernel
theorem f_141_100 : mFetch 141 100 = some (.ifCond .le 8, 3, [108]) := by decide +kernel
theorem f_141_103 : mFetch 141 103 = some (.iload 4, 2, []) := by decide +kernel
theorem f_141_105 : mFetch 141 105 = some (.ifCond .le 118, 3, [223]) := by decide +kernel
theorem f_141_108 : mFetch 141 108 = some (.aload_n 3, 1, []) := by decide +kernel
theorem f_141_109 : mFetch 141 109 = some (.iconst 1, 1, []) := by decide +kernel
theorem f_141_110 : mFetch 141 110 = some (.dup2, 1, []) := by decide +kernel
theorem f_141_111 : mFetch 141 111 = some (.iaload, 1, []) := by decide +kernel
theorem f_141_112 : mFetch 141 112 = some (.iload_n 2, 1, []) := by decide +kernel
theorem f_141_113 : mFetch 141 113 = some (.ifCond .gt 15, 3, [128]) := by decide +kernel
theorem f_141_116 : mFetch 141 116 = some (.iconst 1, 1, []) := by decide +kernel
theorem f_141_117 : mFetch 141 117 = some (.aload_n 0, 1, []) := by decide +kernel
theorem f_141_118 : mFetch 141 118 = some (.iload_n 1, 1, []) := by decide +kernel
theorem f_141_119 : mFetch 141 119 = some (.invokevirtual 87, 3, [128, 2, 2, 10, 847, 848, 849]) := by decide +kernel
theorem f_141_122 : mFetch 141 122 = some (.iconst 4, 1, []) := by decide +kernel
theorem f_141_123 : mFetch 141 123 = some (.idiv, 1, []) := by decide +kernel
theorem f_141_124 : mFetch 141 124 = some (.iadd, 1, []) := by decide +kernel
theorem f_141_125 : mFetch 141 125 = some (.goto 4, 3, [129]) := by decide +kernel
theorem f_141_128 : mFetch 141 128 = some (.iconst 1, 1, []) := by decide +kernel
theorem f_141_129 : mFetch 141 129 = some (.iadd, 1, []) := by decide +kernel
theorem f_141_130 : mFetch 141 130 = some (.iastore, 1, []) := by decide +kernel
theorem f_141_131 : mFetch 141 131 = some (.iload_n 2, 1, []) := by decide +kernel
theorem f_141_132 : mFetch 141 132 = some (.ifCond .gt 55, 3, [187]) := by decide +kernel
theorem f_141_135 : mFetch 141 135 = some (.aload_n 0, 1, []) := by decide +kernel
theorem f_141_136 : mFetch 141 136 = some (.getfield 25, 3, [10, 10, 0, 1342]) := by decide +kernel
theorem f_141_139 : mFetch 141 139 = some (.iload_n 1, 1, []) := by decide +kernel
theorem f_141_140 : mFetch 141 140 = some (.aaload, 1, []) := by decide +kernel
theorem f_141_141 : mFetch 141 141 = some (.astore 5, 2, []) := by decide +kernel
theorem f_141_143 : mFetch 141 143 = some (.aload 5, 2, []) := by decide +kernel
theorem f_141_145 : mFetch 141 145 = some (.arraylength, 1, []) := by decide +kernel
theorem f_141_146 : mFetch 141 146 = some (.istore 6, 2, []) := by decide +kernel
theorem f_141_148 : mFetch 141 148 = some (.iconst 0, 1, []) := by decide +kernel
theorem f_141_149 : mFetch 141 149 = some (.istore 7, 2, []) := by decide +kernel
theorem f_141_151 : mFetch 141 151 = some (.iload 7, 2, []) := by decide +kernel
theorem f_141_153 : mFetch 141 153 = some (.iload 6, 2, []) := by decide +kernel
theorem f_141_155 : mFetch 141 155 = some (.if_icmp .ge 32, 3, [187]) := by decide +kernel
theorem f_141_158 : mFetch 141 158 = some (.aload 5, 2, []) := by decide +kernel
theorem f_141_160 : mFetch 141 160 = some (.iload 7, 2, []) := by decide +kernel
theorem f_141_162 : mFetch 141 162 = some (.iaload, 1, []) := by decide +kernel
theorem f_141_163 : mFetch 141 163 = some (.istore 8, 2, []) := by decide +kernel
theorem f_141_165 : mFetch 141 165 = some (.aload_n 0, 1, []) := by decide +kernel
theorem f_141_166 : mFetch 141 166 = some (.getfield 37, 3, [10, 14, 0, 1350]) := by decide +kernel
theorem f_141_169 : mFetch 141 169 = some (.aload_n 0, 1, []) := by decide +kernel
theorem f_141_170 : mFetch 141 170 = some (.getfield 65, 3, [10, 4, 0, 1334]) := by decide +kernel
theorem f_141_173 : mFetch 141 173 = some (.aaload, 1, []) := by decide +kernel
theorem f_141_174 : mFetch 141 174 = some (.iload 8, 2, []) := by decide +kernel
theorem f_141_176 : mFetch 141 176 = some (.dup2, 1, []) := by decide +kernel
theorem f_141_177 : mFetch 141 177 = some (.iaload, 1, []) := by decide +kernel
theorem f_141_178 : mFetch 141 178 = some (.iconst 1, 1, []) := by decide +kernel
theorem f_141_179 : mFetch 141 179 = some (.iadd, 1, []) := by decide +kernel
theorem f_141_180 : mFetch 141 180 = some (.iastore, 1, []) := by decide +kernel
theorem f_141_181 : mFetch 141 181 = some (.iinc 7 1, 3, []) := by decide +kernel
theorem f_141_184 : mFetch 141 184 = some (.goto (-33), 3, [151]) := by decide +kernel
theorem f_141_187 : mFetch 141 187 = some (.aload_n 3, 1, []) := by decide +kernel
theorem f_141_188 : mFetch 141 188 = some (.bipush 6, 2, []) := by decide +kernel
theorem f_141_190 : mFetch 141 190 = some (.dup2, 1, []) := by decide +kernel
theorem f_141_191 : mFetch 141 191 = some (.iaload, 1, []) := by decide +kernel
theorem f_141_192 : mFetch 141 192 = some (.iconst 1, 1, []) := by decide +kernel
theorem f_141_193 : mFetch 141 193 = some (.iadd, 1, []) := by decide +kernel
theorem f_141_194 : mFetch 141 194 = some (.iastore, 1, []) := by decide +kernel
theorem f_141_195 : mFetch 141 195 = some (.aload_n 0, 1, []) := by decide +kernel
theorem f_141_196 : mFetch 141 196 = some (.getfield 28, 3, [10, 11, 0, 1344]) := by decide +kernel
theorem f_141_199 : mFetch 141 199 = some (.iload_n 1, 1, []) := by decide +kernel
theorem f_141_200 : mFetch 141 200 = some (.aaload, 1, []) := by decide +kernel
theorem f_141_201 : mFetch 141 201 = some (.iconst 1, 1, []) := by decide +kernel
theorem f_141_202 : mFetch 141 202 = some (.dup2, 1, []) := by decide +kernel
theorem f_141_203 : mFetch 141 203 = some (.iaload, 1, []) := by decide +kernel
theorem f_141_204 : mFetch 141 204 = some (.iconst 1, 1, []) := by decide +kernel
theorem f_141_205 : mFetch 141 205 = some (.iadd, 1, []) := by decide +kernel
theorem f_141_206 : mFetch 141 206 = some (.iastore, 1, []) := by decide +kernel
theorem f_141_207 : mFetch 141 207 = some (.aload_n 0, 1, []) := by decide +kernel
theorem f_141_208 : mFetch 141 208 = some (.getfield 13, 3, [10, 7, 0, 1337]) := by decide +kernel
theorem f_141_211 : mFetch 141 211 = some (.iconst 0, 1, []) := by decide +kernel
theorem f_141_212 : mFetch 141 212 = some (.dup2, 1, []) := by decide +kernel
theorem f_141_213 : mFetch 141 213 = some (.iaload, 1, []) := by decide +kernel
theorem f_141_214 : mFetch 141 214 = some (.iconst 1, 1, []) := by decide +kernel
theorem f_141_215 : mFetch 141 215 = some (.iadd, 1, []) := by decide +kernel
theorem f_141_216 : mFetch 141 216 = some (.iastore, 1, []) := by decide +kernel
theorem f_141_217 : mFetch 141 217 = some (.aload_n 0, 1, []) := by decide +kernel
theorem f_141_218 : mFetch 141 218 = some (.iconst 1, 1, []) := by decide +kernel
theorem f_141_219 : mFetch 141 219 = some (.putfield 71, 3, [10, 6, 0, 1336]) := by decide +kernel
theorem f_141_222 : mFetch 141 222 = some (.return_, 1, []) := by decide +kernel
theorem f_141_223 : mFetch 141 223 = some (.aload_n 3, 1, []) := by decide +kernel
theorem f_141_224 : mFetch 141 224 = some (.iconst 2, 1, []) := by decide +kernel
theorem f_141_225 : mFetch 141 225 = some (.dup2, 1, []) := by decide +kernel
theorem f_141_226 : mFetch 141 226 = some (.iaload, 1, []) := by decide +kernel
theorem f_141_227 : mFetch 141 227 = some (.iconst 1, 1, []) := by decide +kernel
theorem f_141_228 : mFetch 141 228 = some (.iadd, 1, []) := by decide +kernel
theorem f_141_229 : mFetch 141 229 = some (.iastore, 1, []) := by decide +kernel
theorem f_141_230 : mFetch 141 230 = some (.aload_n 3, 1, []) := by decide +kernel
theorem f_141_231 : mFetch 141 231 = some (.bipush 7, 2, []) := by decide +kernel
theorem f_141_233 : mFetch 141 233 = some (.dup2, 1, []) := by decide +kernel
theorem f_141_234 : mFetch 141 234 = some (.iaload, 1, []) := by decide +kernel
theorem f_141_235 : mFetch 141 235 = some (.iconst 1, 1, []) := by decide +kernel
theorem f_141_236 : mFetch 141 236 = some (.iadd, 1, []) := by decide +kernel
theorem f_141_237 : mFetch 141 237 = some (.iastore, 1, []) := by decide +kernel
theorem f_141_238 : mFetch 141 238 = some (.aload_n 0, 1, []) := by decide +kernel
theorem f_141_239 : mFetch 141 239 = some (.getfield 13, 3, [10, 7, 0, 1337]) := by decide +kernel
theorem f_141_242 : mFetch 141 242 = some (.iconst 1, 1, []) := by decide +kernel
theorem f_141_243 : mFetch 141 243 = some (.dup2, 1, []) := by decide +kernel
theorem f_141_244 : mFetch 141 244 = some (.iaload, 1, []) := by decide +kernel
theorem f_141_245 : mFetch 141 245 = some (.iconst 1, 1, []) := by decide +kernel
theorem f_141_246 : mFetch 141 246 = some (.iadd, 1, []) := by decide +kernel
theorem f_141_247 : mFetch 141 247 = some (.iastore, 1, []) := by decide +kernel
theorem f_141_248 : mFetch 141 248 = some (.aload_n 3, 1, []) := by decide +kernel
theorem f_141_249 : mFetch 141 249 = some (.iconst 2, 1, []) := by decide +kernel
theorem f_141_250 : mFetch 141 250 = some (.iaload, 1, []) := by decide +kernel
theorem f_141_251 : mFetch 141 251 = some (.iconst 1, 1, []) := by decide +kernel
theorem f_141_252 : mFetch 141 252 = some (.if_icmp .le 12, 3, [264]) := by decide +kernel
theorem f_141_255 : mFetch 141 255 = some (.aload_n 3, 1, []) := by decide +kernel
theorem f_141_256 : mFetch 141 256 = some (.iconst 0, 1, []) := by decide +kernel
theorem f_141_257 : mFetch 141 257 = some (.iconst 0, 1, []) := by decide +kernel
theorem f_141_258 : mFetch 141 258 = some (.iastore, 1, []) := by decide +kernel
theorem f_141_259 : mFetch 141 259 = some (.aload_n 3, 1, []) := by decide +kernel
theorem f_141_260 : mFetch 141 260 = some (.bipush 8, 2, []) := by decide +kernel
theorem f_141_262 : mFetch 141 262 = some (.iconst 1, 1, []) := by decide +kernel
theorem f_141_263 : mFetch 141 263 = some (.iastore, 1, []) := by decide +kernel
theorem f_141_264 : mFetch 141 264 = some (.return_, 1, []) := by decide +kernel
theorem b_141_0 {d : Nat} {a0 : Nat} {w : MW} (h0 : mTg w a0 = 10) : mX (d + 1) 141 0 [.ref a0, mJ, mJ, mJ, mJ, mJ, mJ, mJ, mJ] [] w = mThen (mK d 129 [.ref a0] w) (fun v w9 => mX (d + 1) 141 4 [.ref a0, mJ, mJ, mJ, mJ, mJ, mJ, mJ, mJ] (v.toList ++ []) w9) := by
  refine Eq.trans (X_st f_141_0 rfl rfl) ?_
  refine Eq.trans (X_call f_141_1 (by decide) rfl rfl rfl rfl rfl rfl (Nat.le_of_ble_eq_true rfl) (Nat.le_of_ble_eq_true rfl) (decide_eq_true h0) (Nat.le_of_ble_eq_true rfl)) ?_
  exact mThen_eq fun v w9 => mX_mask rfl
theorem e_141 {d : Nat} {a0 : Nat} {w : MW} : mK d 141 [.ref a0] w = mX d 141 0 [.ref a0, mJ, mJ, mJ, mJ, mJ, mJ, mJ, mJ] [] w := rfl
theorem b_141_4 {d : Nat} {a0 : Nat} {y0 : Int32} {w : MW} (h0 : mTg w a0 = 10) : mX (d + 1) 141 4 [.ref a0, mJ, mJ, mJ, mJ, mJ, mJ, mJ, mJ] [.int y0] w = mThen (mK d 131 [.ref a0, .int (mI w a0 4)] w) (fun v w9 => mX (d + 1) 141 13 [.ref a0, .int y0, mJ, mJ, mJ, mJ, mJ, mJ, mJ] (v.toList ++ []) w9) := by
  refine Eq.trans (X_istore_n (L' := [.ref a0, .int y0, mJ, mJ, mJ, mJ, mJ, mJ, mJ]) f_141_4 (Nat.le_of_ble_eq_true rfl) rfl) ?_
  refine Eq.trans (X_st f_141_5 rfl rfl) ?_
  refine Eq.trans (X_st f_141_6 rfl rfl) ?_
  refine Eq.trans (X_getI f_141_7 h0 rfl) ?_
  refine Eq.trans (X_call f_141_10 (by decide) rfl rfl rfl rfl rfl rfl (Nat.le_of_ble_eq_true rfl) (Nat.le_of_ble_eq_true rfl) (decide_eq_true h0) (Nat.le_of_ble_eq_true rfl)) ?_
  exact mThen_eq fun v w9 => mX_mask rfl
theorem b_141_13 {d : Nat} {a0 : Nat} {x1 : Nat} {y0 : Int32} {z0 : Nat} {w : MW} (h0 : mTg w a0 = 10) (h1 : mR w a0 12 = some (gR w a0 12)) (h2 : 52 ≤ mTg w (gR w a0 12) ∧ mTg w (gR w a0 12) < 55) (h3 : (mI w a0 4) = nI z0) (h4 : z0 < 2147483648) (h5 : z0 < mLn w (gR w a0 12)) (h6 : mR w (gR w a0 12) z0 = some (gR w (gR w a0 12) z0)) (h7 : mR w a0 11 = some (gR w a0 11)) (h8 : 52 ≤ mTg w (gR w a0 11) ∧ mTg w (gR w a0 11) < 55) (h9 : x1 < 2147483648) (h10 : x1 < mLn w (gR w a0 11)) (h11 : mR w (gR w a0 11) x1 = some (gR w (gR w a0 11) x1)) (h12 : mTg w (gR w (gR w a0 11) x1) = 50) (h13 : 0 < mLn w (gR w (gR w a0 11) x1)) (h14 : mE ≤ (gR w (gR w a0 11) x1)) : mX d 141 13 [.ref a0, .int (nI x1), mJ, mJ, mJ, mJ, mJ, mJ, mJ] [.int y0] w = mX d 141 36 [.ref a0, .int (nI x1), .int y0, .ref (gR w (gR w a0 12) z0), mJ, mJ, mJ, mJ, mJ] [] (wI w (gR w (gR w a0 11) x1) 0 ((mI w (gR w (gR w a0 11) x1) 0) + (nI 1))) := by
  refine Eq.trans (X_istore_n (L' := [.ref a0, .int (nI x1), .int y0, mJ, mJ, mJ, mJ, mJ, mJ]) f_141_13 (Nat.le_of_ble_eq_true rfl) rfl) ?_
  refine Eq.trans (X_st f_141_14 rfl rfl) ?_
  refine Eq.trans (X_getR f_141_15 h0 rfl h1) ?_
  refine Eq.trans (X_st f_141_18 rfl rfl) ?_
  refine Eq.trans (X_getI f_141_19 h0 rfl) ?_
  refine Eq.trans (X_aald f_141_22 h2 (jnnE h3 h4) (jclE h3 h4) h5 h6) ?_
  refine Eq.trans (X_astore_n (L' := [.ref a0, .int (nI x1), .int y0, .ref (gR w (gR w a0 12) z0), mJ, mJ, mJ, mJ, mJ]) f_141_23 (Nat.le_of_ble_eq_true rfl) rfl) ?_
  refine Eq.trans (X_st f_141_24 rfl rfl) ?_
  refine Eq.trans (X_getR f_141_25 h0 rfl h7) ?_
  refine Eq.trans (X_st f_141_28 rfl rfl) ?_
  refine Eq.trans (X_aald f_141_29 h8 (jnn h9) (jcl h9) h10 h11) ?_
  refine Eq.trans (X_iconst f_141_30 kc_i_0) ?_
  refine Eq.trans (X_dup2 f_141_31 rfl rfl) ?_
  refine Eq.trans (X_iald f_141_32 h12 kn_0 kl_0 h13) ?_
  refine Eq.trans (X_iconst f_141_33 kc_i_1) ?_
  refine Eq.trans (X_st f_141_34 rfl rfl) ?_
  refine Eq.trans (X_iast f_141_35 h12 h14 kn_0 kl_0 h13) ?_
  exact mX_mask rfl
theorem b_141_36 {d : Nat} {a0 : Nat} {x1 : Int32} {x2 : Int32} {a3 : Nat} {w : MW} : mX d 141 36 [.ref a0, .int x1, .int x2, .ref a3, mJ, mJ, mJ, mJ, mJ] [] w = (if x2 ≤ nI 0 then mX d 141 48 [.ref a0, .int x1, .int x2, .ref a3, mJ, mJ, mJ, mJ, mJ] [] w else mX d 141 40 [.ref a0, .int x1, .int x2, .ref a3, mJ, mJ, mJ, mJ, mJ] [] w) := by
  refine Eq.trans (X_st f_141_36 rfl rfl) ?_
  refine Eq.trans (X_br f_141_37 rfl rfl) ?_
  exact mIte_eq (mX_mask rfl) (mX_mask rfl)
theorem b_141_40 {d : Nat} {a0 : Nat} {x1 : Int32} {x2 : Int32} {a3 : Nat} {w : MW} (h0 : mTg w a0 = 10) : mX (d + 1) 141 40 [.ref a0, .int x1, .int x2, .ref a3, mJ, mJ, mJ, mJ, mJ] [] w = mThen (mK d 140 [.ref a0, .int x2] w) (fun v w9 => mX (d + 1) 141 45 [.ref a0, .int x1, .int x2, .ref a3, mJ, mJ, mJ, mJ, mJ] (v.toList ++ []) w9) := by
  refine Eq.trans (X_st f_141_40 rfl rfl) ?_
  refine Eq.trans (X_st f_141_41 rfl rfl) ?_
  refine Eq.trans (X_call f_141_42 (by decide) rfl rfl rfl rfl rfl rfl (Nat.le_of_ble_eq_true rfl) (Nat.le_of_ble_eq_true rfl) (decide_eq_true h0) (Nat.le_of_ble_eq_true rfl)) ?_
  exact mThen_eq fun v w9 => mX_mask rfl
theorem b_141_45 {d : Nat} {a0 : Nat} {x1 : Int32} {x2 : Int32} {a3 : Nat} {y0 : Int32} {w : MW} : mX d 141 45 [.ref a0, .int x1, .int x2, .ref a3, mJ, mJ, mJ, mJ, mJ] [.int y0] w = mX d 141 49 [.ref a0, .int x1, .int x2, .ref a3, mJ, mJ, mJ, mJ, mJ] [.int y0] w := by
  refine Eq.trans (X_st f_141_45 rfl rfl) ?_
  exact mX_mask rfl
theorem b_141_48 {d : Nat} {a0 : Nat} {x1 : Int32} {x2 : Int32} {a3 : Nat} {w : MW} : mX d 141 48 [.ref a0, .int x1, .int x2, .ref a3, mJ, mJ, mJ, mJ, mJ] [] w = mX d 141 49 [.ref a0, .int x1, .int x2, .ref a3, mJ, mJ, mJ, mJ, mJ] [.int (nI 0)] w := by
  refine Eq.trans (X_iconst f_141_48 kc_i_0) ?_
  exact mX_mask rfl
theorem b_141_49 {d : Nat} {a0 : Nat} {x1 : Int32} {x2 : Int32} {a3 : Nat} {y0 : Int32} {w : MW} (h0 : mTg w a0 = 10) (h1 : mR w a0 7 = some (gR w a0 7)) (h2 : mTg w (gR w a0 7) = 50) (h3 : 4 < mLn w (gR w a0 7)) : mX d 141 49 [.ref a0, .int x1, .int x2, .ref a3, mJ, mJ, mJ, mJ, mJ] [.int y0] w = (if y0 ≤ nI 0 then mX d 141 67 [.ref a0, .int x1, .int x2, .ref a3, .int y0, mJ, mJ, mJ, mJ] [.int (mI w (gR w a0 7) 4), .int (nI 4), .ref (gR w a0 7)] w else mX d 141 63 [.ref a0, .int x1, .int x2, .ref a3, .int y0, mJ, mJ, mJ, mJ] [.int (mI w (gR w a0 7) 4), .int (nI 4), .ref (gR w a0 7)] w) := by
  refine Eq.trans (X_istore (L' := [.ref a0, .int x1, .int x2, .ref a3, .int y0, mJ, mJ, mJ, mJ]) f_141_49 (Nat.le_of_ble_eq_true rfl) rfl) ?_
  refine Eq.trans (X_st f_141_51 rfl rfl) ?_
  refine Eq.trans (X_getR f_141_52 h0 rfl h1) ?_
  refine Eq.trans (X_iconst f_141_55 kc_i_4) ?_
  refine Eq.trans (X_dup2 f_141_56 rfl rfl) ?_
  refine Eq.trans (X_iald f_141_57 h2 kn_4 kl_4 h3) ?_
  refine Eq.trans (X_st f_141_58 rfl rfl) ?_
  refine Eq.trans (X_br f_141_60 rfl rfl) ?_
  exact mIte_eq (mX_mask rfl) (mX_mask rfl)
theorem b_141_63 {d : Nat} {a0 : Nat} {x1 : Int32} {x2 : Int32} {a3 : Nat} {x4 : Int32} {y0 : Int32} {y1 : Int32} {b2 : Nat} {w : MW} : mX d 141 63 [.ref a0, .int x1, .int x2, .ref a3, .int x4, mJ, mJ, mJ, mJ] [.int y0, .int y1, .ref b2] w = mX d 141 68 [.ref a0, .int x1, .int x2, .ref a3, .int x4, mJ, mJ, mJ, mJ] [.int (nI 1), .int y0, .int y1, .ref b2] w := by
  refine Eq.trans (X_iconst f_141_63 kc_i_1) ?_
  refine Eq.trans (X_st f_141_64 rfl rfl) ?_
  exact mX_mask rfl
theorem b_141_67 {d : Nat} {a0 : Nat} {x1 : Int32} {x2 : Int32} {a3 : Nat} {x4 : Int32} {y0 : Int32} {y1 : Int32} {b2 : Nat} {w : MW} : mX d 141 67 [.ref a0, .int x1, .int x2, .ref a3, .int x4, mJ, mJ, mJ, mJ] [.int y0, .int y1, .ref b2] w = mX d 141 68 [.ref a0, .int x1, .int x2, .ref a3, .int x4, mJ, mJ, mJ, mJ] [.int (nI 0), .int y0, .int y1, .ref b2] w := by
  refine Eq.trans (X_iconst f_141_67 kc_i_0) ?_
  exact mX_mask rfl
theorem b_141_68 {d : Nat} {a0 : Nat} {x1 : Int32} {x2 : Int32} {a3 : Nat} {x4 : Int32} {y0 : Int32} {y1 : Int32} {y2 : Nat} {b3 : Nat} {w : MW} (h0 : mTg w b3 = 50) (h1 : mE ≤ b3) (h2 : y2 < 2147483648) (h3 : y2 < mLn w b3) : mX d 141 68 [.ref a0, .int x1, .int x2, .ref a3, .int x4, mJ, mJ, mJ, mJ] [.int y0, .int y1, .int (nI y2), .ref b3] w = mX d 141 70 [.ref a0, .int x1, .int x2, .ref a3, .int x4, mJ, mJ, mJ, mJ] [] (wI w b3 y2 (y1 + y0)) := by
  refine Eq.trans (X_st f_141_68 rfl rfl) ?_
  refine Eq.trans (X_iast f_141_69 h0 h1 (jnn h2) (jcl h2) h3) ?_
  exact mX_mask rfl
theorem b_141_70 {d : Nat} {a0 : Nat} {x1 : Int32} {x2 : Int32} {a3 : Nat} {x4 : Int32} {w : MW} (h0 : mTg w a0 = 10) (h1 : mR w a0 7 = some (gR w a0 7)) (h2 : mTg w (gR w a0 7) = 50) (h3 : 5 < mLn w (gR w a0 7)) : mX d 141 70 [.ref a0, .int x1, .int x2, .ref a3, .int x4, mJ, mJ, mJ, mJ] [] w = (if nI 0 ≤ x4 then mX d 141 86 [.ref a0, .int x1, .int x2, .ref a3, .int x4, mJ, mJ, mJ, mJ] [.int (mI w (gR w a0 7) 5), .int (nI 5), .ref (gR w a0 7)] w else mX d 141 82 [.ref a0, .int x1, .int x2, .ref a3, .int x4, mJ, mJ, mJ, mJ] [.int (mI w (gR w a0 7) 5), .int (nI 5), .ref (gR w a0 7)] w) := by
  refine Eq.trans (X_st f_141_70 rfl rfl) ?_
  refine Eq.trans (X_getR f_141_71 h0 rfl h1) ?_
  refine Eq.trans (X_iconst f_141_74 kc_i_5) ?_
  refine Eq.trans (X_dup2 f_141_75 rfl rfl) ?_
  refine Eq.trans (X_iald f_141_76 h2 kn_5 kl_5 h3) ?_
  refine Eq.trans (X_st f_141_77 rfl rfl) ?_
  refine Eq.trans (X_br f_141_79 rfl rfl) ?_
  exact mIte_eq (mX_mask rfl) (mX_mask rfl)
theorem b_141_82 {d : Nat} {a0 : Nat} {x1 : Int32} {x2 : Int32} {a3 : Nat} {x4 : Int32} {y0 : Int32} {y1 : Int32} {b2 : Nat} {w : MW} : mX d 141 82 [.ref a0, .int x1, .int x2, .ref a3, .int x4, mJ, mJ, mJ, mJ] [.int y0, .int y1, .ref b2] w = mX d 141 87 [.ref a0, .int x1, .int x2, .ref a3, .int x4, mJ, mJ, mJ, mJ] [.int (nI 1), .int y0, .int y1, .ref b2] w := by
  refine Eq.trans (X_iconst f_141_82 kc_i_1) ?_
  refine Eq.trans (X_st f_141_83 rfl rfl) ?_
  exact mX_mask rfl
theorem b_141_86 {d : Nat} {a0 : Nat} {x1 : Int32} {x2 : Int32} {a3 : Nat} {x4 : Int32} {y0 : Int32} {y1 : Int32} {b2 : Nat} {w : MW} : mX d 141 86 [.ref a0, .int x1, .int x2, .ref a3, .int x4, mJ, mJ, mJ, mJ] [.int y0, .int y1, .ref b2] w = mX d 141 87 [.ref a0, .int x1, .int x2, .ref a3, .int x4, mJ, mJ, mJ, mJ] [.int (nI 0), .int y0, .int y1, .ref b2] w := by
  refine Eq.trans (X_iconst f_141_86 kc_i_0) ?_
  exact mX_mask rfl
theorem b_141_87 {d : Nat} {a0 : Nat} {x1 : Int32} {x2 : Int32} {a3 : Nat} {x4 : Int32} {y0 : Int32} {y1 : Int32} {y2 : Nat} {b3 : Nat} {w : MW} (h0 : mTg w b3 = 50) (h1 : mE ≤ b3) (h2 : y2 < 2147483648) (h3 : y2 < mLn w b3) : mX d 141 87 [.ref a0, .int x1, .int x2, .ref a3, .int x4, mJ, mJ, mJ, mJ] [.int y0, .int y1, .int (nI y2), .ref b3] w = mX d 141 89 [.ref a0, .int x1, .int x2, .ref a3, .int x4, mJ, mJ, mJ, mJ] [] (wI w b3 y2 (y1 + y0)) := by
  refine Eq.trans (X_st f_141_87 rfl rfl) ?_
  refine Eq.trans (X_iast f_141_88 h0 h1 (jnn h2) (jcl h2) h3) ?_
  exact mX_mask rfl
theorem b_141_89 {d : Nat} {a0 : Nat} {x1 : Int32} {x2 : Int32} {a3 : Nat} {x4 : Int32} {w : MW} (h0 : mTg w a0 = 10) (h1 : mE ≤ a0) : mX d 141 89 [.ref a0, .int x1, .int x2, .ref a3, .int x4, mJ, mJ, mJ, mJ] [] w = mX d 141 99 [.ref a0, .int x1, .int x2, .ref a3, .int x4, mJ, mJ, mJ, mJ] [] (wI w a0 3 ((mI w a0 3) + (nI 1))) := by
  refine Eq.trans (X_st f_141_89 rfl rfl) ?_
  refine Eq.trans (X_dup f_141_90 rfl) ?_
  refine Eq.trans (X_getI f_141_91 h0 rfl) ?_
  refine Eq.trans (X_iconst f_141_94 kc_i_1) ?_
  refine Eq.trans (X_st f_141_95 rfl rfl) ?_
  refine Eq.trans (X_putI f_141_96 h0 h1 rfl rfl) ?_
  exact mX_mask rfl
theorem b_141_99 {d : Nat} {a0 : Nat} {x1 : Int32} {x2 : Int32} {a3 : Nat} {x4 : Int32} {w : MW} : mX d 141 99 [.ref a0, .int x1, .int x2, .ref a3, .int x4, mJ, mJ, mJ, mJ] [] w = (if x2 ≤ nI 0 then mX d 141 108 [.ref a0, .int x1, .int x2, .ref a3, mJ, mJ, mJ, mJ, mJ] [] w else mX d 141 103 [.ref a0, .int x1, .int x2, .ref a3, .int x4, mJ, mJ, mJ, mJ] [] w) := by
  refine Eq.trans (X_st f_141_99 rfl rfl) ?_
  refine Eq.trans (X_br f_141_100 rfl rfl) ?_
  exact mIte_eq (mX_mask rfl) (mX_mask rfl)
theorem b_141_103 {d : Nat} {a0 : Nat} {x1 : Int32} {x2 : Int32} {a3 : Nat} {x4 : Int32} {w : MW} : mX d 141 103 [.ref a0, .int x1, .int x2, .ref a3, .int x4, mJ, mJ, mJ, mJ] [] w = (if x4 ≤ nI 0 then mX d 141 223 [.ref a0, mJ, mJ, .ref a3, mJ, mJ, mJ, mJ, mJ] [] w else mX d 141 108 [.ref a0, .int x1, .int x2, .ref a3, mJ, mJ, mJ, mJ, mJ] [] w) := by
  refine Eq.trans (X_st f_141_103 rfl rfl) ?_
  refine Eq.trans (X_br f_141_105 rfl rfl) ?_
  exact mIte_eq (mX_mask rfl) (mX_mask rfl)
theorem b_141_108 {d : Nat} {a0 : Nat} {x1 : Int32} {x2 : Int32} {a3 : Nat} {w : MW} (h0 : mTg w a3 = 50) (h1 : 1 < mLn w a3) : mX d 141 108 [.ref a0, .int x1, .int x2, .ref a3, mJ, mJ, mJ, mJ, mJ] [] w = (if nI 0 < x2 then mX d 141 128 [.ref a0, .int x1, .int x2, .ref a3, mJ, mJ, mJ, mJ, mJ] [.int (mI w a3 1), .int (nI 1), .ref a3] w else mX d 141 116 [.ref a0, .int x1, .int x2, .ref a3, mJ, mJ, mJ, mJ, mJ] [.int (mI w a3 1), .int (nI 1), .ref a3] w) := by
  refine Eq.trans (X_st f_141_108 rfl rfl) ?_
  refine Eq.trans (X_iconst f_141_109 kc_i_1) ?_
  refine Eq.trans (X_dup2 f_141_110 rfl rfl) ?_
  refine Eq.trans (X_iald f_141_111 h0 kn_1 kl_1 h1) ?_
  refine Eq.trans (X_st f_141_112 rfl rfl) ?_
  refine Eq.trans (X_br f_141_113 rfl rfl) ?_
  exact mIte_eq (mX_mask rfl) (mX_mask rfl)
theorem b_141_116 {d : Nat} {a0 : Nat} {x1 : Int32} {x2 : Int32} {a3 : Nat} {y0 : Int32} {y1 : Int32} {b2 : Nat} {w : MW} (h0 : mTg w a0 = 10) : mX (d + 1) 141 116 [.ref a0, .int x1, .int x2, .ref a3, mJ, mJ, mJ, mJ, mJ] [.int y0, .int y1, .ref b2] w = mThen (mK d 128 [.ref a0, .int x1] w) (fun v w9 => mX (d + 1) 141 122 [.ref a0, .int x1, .int x2, .ref a3, mJ, mJ, mJ, mJ, mJ] (v.toList ++ [.int (nI 1), .int y0, .int y1, .ref b2]) w9) := by
  refine Eq.trans (X_iconst f_141_116 kc_i_1) ?_
  refine Eq.trans (X_st f_141_117 rfl rfl) ?_
  refine Eq.trans (X_st f_141_118 rfl rfl) ?_
  refine Eq.trans (X_call f_141_119 (by decide) rfl rfl rfl rfl rfl rfl (Nat.le_of_ble_eq_true rfl) (Nat.le_of_ble_eq_true rfl) (decide_eq_true h0) (Nat.le_of_ble_eq_true rfl)) ?_
  exact mThen_eq fun v w9 => mX_mask rfl
theorem b_141_122 {d : Nat} {a0 : Nat} {x1 : Int32} {x2 : Int32} {a3 : Nat} {y0 : Int32} {y1 : Int32} {y2 : Int32} {y3 : Int32} {b4 : Nat} {w : MW} : mX d 141 122 [.ref a0, .int x1, .int x2, .ref a3, mJ, mJ, mJ, mJ, mJ] [.int y0, .int y1, .int y2, .int y3, .ref b4] w = mX d 141 129 [.ref a0, .int x1, .int x2, .ref a3, mJ, mJ, mJ, mJ, mJ] [.int (y1 + (y0 / (nI 4))), .int y2, .int y3, .ref b4] w := by
  refine Eq.trans (X_iconst f_141_122 kc_i_4) ?_
  refine Eq.trans (X_idiv f_141_123 kz_4) ?_
  refine Eq.trans (X_st f_141_124 rfl rfl) ?_
  refine Eq.trans (X_st f_141_125 rfl rfl) ?_
  exact mX_mask rfl
theorem b_141_128 {d : Nat} {a0 : Nat} {x1 : Int32} {x2 : Int32} {a3 : Nat} {y0 : Int32} {y1 : Int32} {b2 : Nat} {w : MW} : mX d 141 128 [.ref a0, .int x1, .int x2, .ref a3, mJ, mJ, mJ, mJ, mJ] [.int y0, .int y1, .ref b2] w = mX d 141 129 [.ref a0, .int x1, .int x2, .ref a3, mJ, mJ, mJ, mJ, mJ] [.int (nI 1), .int y0, .int y1, .ref b2] w := by
  refine Eq.trans (X_iconst f_141_128 kc_i_1) ?_
  exact mX_mask rfl
theorem b_141_129 {d : Nat} {a0 : Nat} {x1 : Int32} {x2 : Int32} {a3 : Nat} {y0 : Int32} {y1 : Int32} {y2 : Nat} {b3 : Nat} {w : MW} (h0 : mTg w b3 = 50) (h1 : mE ≤ b3) (h2 : y2 < 2147483648) (h3 : y2 < mLn w b3) : mX d 141 129 [.ref a0, .int x1, .int x2, .ref a3, mJ, mJ, mJ, mJ, mJ] [.int y0, .int y1, .int (nI y2), .ref b3] w = mX d 141 131 [.ref a0, .int x1, .int x2, .ref a3, mJ, mJ, mJ, mJ, mJ] [] (wI w b3 y2 (y1 + y0)) := by
  refine Eq.trans (X_st f_141_129 rfl rfl) ?_
  refine Eq.trans (X_iast f_141_130 h0 h1 (jnn h2) (jcl h2) h3) ?_
  exact mX_mask rfl
theorem b_141_131 {d : Nat} {a0 : Nat} {x1 : Int32} {x2 : Int32} {a3 : Nat} {w : MW} : mX d 141 131 [.ref a0, .int x1, .int x2, .ref a3, mJ, mJ, mJ, mJ, mJ] [] w = (if nI 0 < x2 then mX d 141 187 [.ref a0, .int x1, mJ, .ref a3, mJ, mJ, mJ, mJ, mJ] [] w else mX d 141 135 [.ref a0, .int x1, mJ, .ref a3, mJ, mJ, mJ, mJ, mJ] [] w) := by
  refine Eq.trans (X_st f_141_131 rfl rfl) ?_
  refine Eq.trans (X_br f_141_132 rfl rfl) ?_
  exact mIte_eq (mX_mask rfl) (mX_mask rfl)
theorem b_141_135 {d : Nat} {a0 : Nat} {x1 : Nat} {a3 : Nat} {w : MW} (h0 : mTg w a0 = 10) (h1 : mR w a0 10 = some (gR w a0 10)) (h2 : 52 ≤ mTg w (gR w a0 10) ∧ mTg w (gR w a0 10) < 55) (h3 : x1 < 2147483648) (h4 : x1 < mLn w (gR w a0 10)) (h5 : mR w (gR w a0 10) x1 = some (gR w (gR w a0 10) x1)) (h6 : 50 ≤ mTg w (gR w (gR w a0 10) x1) ∧ mTg w (gR w (gR w a0 10) x1) < 55) : mX d 141 135 [.ref a0, .int (nI x1), mJ, .ref a3, mJ, mJ, mJ, mJ, mJ] [] w = mX d 141 151 [.ref a0, .int (nI x1), mJ, .ref a3, mJ, .ref (gR w (gR w a0 10) x1), .int (nI (mLn w (gR w (gR w a0 10) x1))), .int (nI 0), mJ] [] w := by
  refine Eq.trans (X_st f_141_135 rfl rfl) ?_
  refine Eq.trans (X_getR f_141_136 h0 rfl h1) ?_
  refine Eq.trans (X_st f_141_139 rfl rfl) ?_
  refine Eq.trans (X_aald f_141_140 h2 (jnn h3) (jcl h3) h4 h5) ?_
  refine Eq.trans (X_astore (L' := [.ref a0, .int (nI x1), mJ, .ref a3, mJ, .ref (gR w (gR w a0 10) x1), mJ, mJ, mJ]) f_141_141 (Nat.le_of_ble_eq_true rfl) rfl) ?_
  refine Eq.trans (X_st f_141_143 rfl rfl) ?_
  refine Eq.trans (X_st f_141_145 rfl (if_pos h6)) ?_
  refine Eq.trans (X_istore (L' := [.ref a0, .int (nI x1), mJ, .ref a3, mJ, .ref (gR w (gR w a0 10) x1), .int (nI (mLn w (gR w (gR w a0 10) x1))), mJ, mJ]) f_141_146 (Nat.le_of_ble_eq_true rfl) rfl) ?_
  refine Eq.trans (X_iconst f_141_148 kc_i_0) ?_
  refine Eq.trans (X_istore (L' := [.ref a0, .int (nI x1), mJ, .ref a3, mJ, .ref (gR w (gR w a0 10) x1), .int (nI (mLn w (gR w (gR w a0 10) x1))), .int (nI 0), mJ]) f_141_149 (Nat.le_of_ble_eq_true rfl) rfl) ?_
  exact mX_mask rfl
theorem b_141_151 {d : Nat} {a0 : Nat} {x1 : Int32} {a3 : Nat} {a5 : Nat} {x6 : Int32} {x7 : Int32} {w : MW} : mX d 141 151 [.ref a0, .int x1, mJ, .ref a3, mJ, .ref a5, .int x6, .int x7, mJ] [] w = (if x6 ≤ x7 then mX d 141 187 [.ref a0, .int x1, mJ, .ref a3, mJ, mJ, mJ, mJ, mJ] [] w else mX d 141 158 [.ref a0, .int x1, mJ, .ref a3, mJ, .ref a5, .int x6, .int x7, mJ] [] w) := by
  refine Eq.trans (X_st f_141_151 rfl rfl) ?_
  refine Eq.trans (X_st f_141_153 rfl rfl) ?_
  refine Eq.trans (X_br f_141_155 rfl rfl) ?_
  exact mIte_eq (mX_mask rfl) (mX_mask rfl)
theorem b_141_158 {d : Nat} {a0 : Nat} {x1 : Int32} {a3 : Nat} {a5 : Nat} {x6 : Int32} {x7 : Nat} {z0 : Nat} {z1 : Nat} {w : MW} (h0 : mTg w a5 = 50) (h1 : x7 < 2147483648) (h2 : x7 < mLn w a5) (h3 : mTg w a0 = 10) (h4 : mR w a0 14 = some (gR w a0 14)) (h5 : 52 ≤ mTg w (gR w a0 14) ∧ mTg w (gR w a0 14) < 55) (h6 : (mI w a0 4) = nI z0) (h7 : z0 < 2147483648) (h8 : z0 < mLn w (gR w a0 14)) (h9 : mR w (gR w a0 14) z0 = some (gR w (gR w a0 14) z0)) (h10 : mTg w (gR w (gR w a0 14) z0) = 50) (h11 : (mI w a5 x7) = nI z1) (h12 : z1 < 2147483648) (h13 : z1 < mLn w (gR w (gR w a0 14) z0)) (h14 : mE ≤ (gR w (gR w a0 14) z0)) : mX d 141 158 [.ref a0, .int x1, mJ, .ref a3, mJ, .ref a5, .int x6, .int (nI x7), mJ] [] w = mX d 141 181 [.ref a0, .int x1, mJ, .ref a3, mJ, .ref a5, .int x6, .int (nI x7), mJ] [] (wI w (gR w (gR w a0 14) z0) z1 ((mI w (gR w (gR w a0 14) z0) z1) + (nI 1))) := by
  refine Eq.trans (X_st f_141_158 rfl rfl) ?_
  refine Eq.trans (X_st f_141_160 rfl rfl) ?_
  refine Eq.trans (X_iald f_141_162 h0 (jnn h1) (jcl h1) h2) ?_
  refine Eq.trans (X_istore (L' := [.ref a0, .int x1, mJ, .ref a3, mJ, .ref a5, .int x6, .int (nI x7), .int (mI w a5 x7)]) f_141_163 (Nat.le_of_ble_eq_true rfl) rfl) ?_
  refine Eq.trans (X_st f_141_165 rfl rfl) ?_
  refine Eq.trans (X_getR f_141_166 h3 rfl h4) ?_
  refine Eq.trans (X_st f_141_169 rfl rfl) ?_
  refine Eq.trans (X_getI f_141_170 h3 rfl) ?_
  refine Eq.trans (X_aald f_141_173 h5 (jnnE h6 h7) (jclE h6 h7) h8 h9) ?_
  refine Eq.trans (X_st f_141_174 rfl rfl) ?_
  refine Eq.trans (X_dup2 f_141_176 rfl rfl) ?_
  refine Eq.trans (X_iald f_141_177 h10 (jnnE h11 h12) (jclE h11 h12) h13) ?_
  refine Eq.trans (X_iconst f_141_178 kc_i_1) ?_
  refine Eq.trans (X_st f_141_179 rfl rfl) ?_
  refine Eq.trans (X_iast f_141_180 h10 h14 (jnnE h11 h12) (jclE h11 h12) h13) ?_
  exact mX_mask rfl
theorem b_141_181 {d : Nat} {a0 : Nat} {x1 : Int32} {a3 : Nat} {a5 : Nat} {x6 : Int32} {x7 : Int32} {w : MW} : mX d 141 181 [.ref a0, .int x1, mJ, .ref a3, mJ, .ref a5, .int x6, .int x7, mJ] [] w = mX d 141 151 [.ref a0, .int x1, mJ, .ref a3, mJ, .ref a5, .int x6, .int (x7 + (nI 1)), mJ] [] w := by
  refine Eq.trans (X_iinc f_141_181 kc_i_1 rfl rfl) ?_
  refine Eq.trans (X_st f_141_184 rfl rfl) ?_
  exact mX_mask rfl
theorem b_141_187 {d : Nat} {a0 : Nat} {x1 : Int32} {a3 : Nat} {w : MW} (h0 : mTg w a3 = 50) (h1 : 6 < mLn w a3) (h2 : mE ≤ a3) : mX d 141 187 [.ref a0, .int x1, mJ, .ref a3, mJ, mJ, mJ, mJ, mJ] [] w = mX d 141 195 [.ref a0, .int x1, mJ, mJ, mJ, mJ, mJ, mJ, mJ] [] (wI w a3 6 ((mI w a3 6) + (nI 1))) := by
  refine Eq.trans (X_st f_141_187 rfl rfl) ?_
  refine Eq.trans (X_bipush f_141_188 kc_b_6) ?_
  refine Eq.trans (X_dup2 f_141_190 rfl rfl) ?_
  refine Eq.trans (X_iald f_141_191 h0 kn_6 kl_6 h1) ?_
  refine Eq.trans (X_iconst f_141_192 kc_i_1) ?_
  refine Eq.trans (X_st f_141_193 rfl rfl) ?_
  refine Eq.trans (X_iast f_141_194 h0 h2 kn_6 kl_6 h1) ?_
  exact mX_mask rfl
theorem b_141_195 {d : Nat} {a0 : Nat} {x1 : Nat} {w : MW} (h0 : mTg w a0 = 10) (h1 : mR w a0 11 = some (gR w a0 11)) (h2 : 52 ≤ mTg w (gR w a0 11) ∧ mTg w (gR w a0 11) < 55) (h3 : x1 < 2147483648) (h4 : x1 < mLn w (gR w a0 11)) (h5 : mR w (gR w a0 11) x1 = some (gR w (gR w a0 11) x1)) (h6 : mTg w (gR w (gR w a0 11) x1) = 50) (h7 : 1 < mLn w (gR w (gR w a0 11) x1)) (h8 : mE ≤ (gR w (gR w a0 11) x1)) : mX d 141 195 [.ref a0, .int (nI x1), mJ, mJ, mJ, mJ, mJ, mJ, mJ] [] w = mX d 141 207 [.ref a0, mJ, mJ, mJ, mJ, mJ, mJ, mJ, mJ] [] (wI w (gR w (gR w a0 11) x1) 1 ((mI w (gR w (gR w a0 11) x1) 1) + (nI 1))) := by
  refine Eq.trans (X_st f_141_195 rfl rfl) ?_
  refine Eq.trans (X_getR f_141_196 h0 rfl h1) ?_
  refine Eq.trans (X_st f_141_199 rfl rfl) ?_
  refine Eq.trans (X_aald f_141_200 h2 (jnn h3) (jcl h3) h4 h5) ?_
  refine Eq.trans (X_iconst f_141_201 kc_i_1) ?_
  refine Eq.trans (X_dup2 f_141_202 rfl rfl) ?_
  refine Eq.trans (X_iald f_141_203 h6 kn_1 kl_1 h7) ?_
  refine Eq.trans (X_iconst f_141_204 kc_i_1) ?_
  refine Eq.trans (X_st f_141_205 rfl rfl) ?_
  refine Eq.trans (X_iast f_141_206 h6 h8 kn_1 kl_1 h7) ?_
  exact mX_mask rfl
theorem b_141_207 {d : Nat} {a0 : Nat} {w : MW} (h0 : mTg w a0 = 10) (h1 : mR w a0 7 = some (gR w a0 7)) (h2 : mTg w (gR w a0 7) = 50) (h3 : 0 < mLn w (gR w a0 7)) (h4 : mE ≤ (gR w a0 7)) : mX d 141 207 [.ref a0, mJ, mJ, mJ, mJ, mJ, mJ, mJ, mJ] [] w = mX d 141 217 [.ref a0, mJ, mJ, mJ, mJ, mJ, mJ, mJ, mJ] [] (wI w (gR w a0 7) 0 ((mI w (gR w a0 7) 0) + (nI 1))) := by
  refine Eq.trans (X_st f_141_207 rfl rfl) ?_
  refine Eq.trans (X_getR f_141_208 h0 rfl h1) ?_
  refine Eq.trans (X_iconst f_141_211 kc_i_0) ?_
  refine Eq.trans (X_dup2 f_141_212 rfl rfl) ?_
  refine Eq.trans (X_iald f_141_213 h2 kn_0 kl_0 h3) ?_
  refine Eq.trans (X_iconst f_141_214 kc_i_1) ?_
  refine Eq.trans (X_st f_141_215 rfl rfl) ?_
  refine Eq.trans (X_iast f_141_216 h2 h4 kn_0 kl_0 h3) ?_
  exact mX_mask rfl
theorem b_141_217 {d : Nat} {a0 : Nat} {w : MW} (h0 : mTg w a0 = 10) (h1 : mE ≤ a0) : mX d 141 217 [.ref a0, mJ, mJ, mJ, mJ, mJ, mJ, mJ, mJ] [] w = mX d 141 222 [mJ, mJ, mJ, mJ, mJ, mJ, mJ, mJ, mJ] [] (wI w a0 6 (nI 1)) := by
  refine Eq.trans (X_st f_141_217 rfl rfl) ?_
  refine Eq.trans (X_iconst f_141_218 kc_i_1) ?_
  refine Eq.trans (X_putI f_141_219 h0 h1 rfl rfl) ?_
  exact mX_mask rfl
theorem b_141_222 {d : Nat} {w : MW} : mX d 141 222 [mJ, mJ, mJ, mJ, mJ, mJ, mJ, mJ, mJ] [] w = some (.inl none, w) := by
  exact X_ret f_141_222 rfl rfl
theorem b_141_223 {d : Nat} {a0 : Nat} {a3 : Nat} {w : MW} (h0 : mTg w a3 = 50) (h1 : 2 < mLn w a3) (h2 : mE ≤ a3) : mX d 141 223 [.ref a0, mJ, mJ, .ref a3, mJ, mJ, mJ, mJ, mJ] [] w = mX d 141 230 [.ref a0, mJ, mJ, .ref a3, mJ, mJ, mJ, mJ, mJ] [] (wI w a3 2 ((mI w a3 2) + (nI 1))) := by
  refine Eq.trans (X_st f_141_223 rfl rfl) ?_
  refine Eq.trans (X_iconst f_141_224 kc_i_2) ?_
  refine Eq.trans (X_dup2 f_141_225 rfl rfl) ?_
  refine Eq.trans (X_iald f_141_226 h0 kn_2 kl_2 h1) ?_
  refine Eq.trans (X_iconst f_141_227 kc_i_1) ?_
  refine Eq.trans (X_st f_141_228 rfl rfl) ?_
  refine Eq.trans (X_iast f_141_229 h0 h2 kn_2 kl_2 h1) ?_
  exact mX_mask rfl
theorem b_141_230 {d : Nat} {a0 : Nat} {a3 : Nat} {w : MW} (h0 : mTg w a3 = 50) (h1 : 7 < mLn w a3) (h2 : mE ≤ a3) : mX d 141 230 [.ref a0, mJ, mJ, .ref a3, mJ, mJ, mJ, mJ, mJ] [] w = mX d 141 238 [.ref a0, mJ, mJ, .ref a3, mJ, mJ, mJ, mJ, mJ] [] (wI w a3 7 ((mI w a3 7) + (nI 1))) := by
  refine Eq.trans (X_st f_141_230 rfl rfl) ?_
  refine Eq.trans (X_bipush f_141_231 kc_b_7) ?_
  refine Eq.trans (X_dup2 f_141_233 rfl rfl) ?_
  refine Eq.trans (X_iald f_141_234 h0 kn_7 kl_7 h1) ?_
  refine Eq.trans (X_iconst f_141_235 kc_i_1) ?_
  refine Eq.trans (X_st f_141_236 rfl rfl) ?_
  refine Eq.trans (X_iast f_141_237 h0 h2 kn_7 kl_7 h1) ?_
  exact mX_mask rfl
theorem b_141_238 {d : Nat} {a0 : Nat} {a3 : Nat} {w : MW} (h0 : mTg w a0 = 10) (h1 : mR w a0 7 = some (gR w a0 7)) (h2 : mTg w (gR w a0 7) = 50) (h3 : 1 < mLn w (gR w a0 7)) (h4 : mE ≤ (gR w a0 7)) : mX d 141 238 [.ref a0, mJ, mJ, .ref a3, mJ, mJ, mJ, mJ, mJ] [] w = mX d 141 248 [mJ, mJ, mJ, .ref a3, mJ, mJ, mJ, mJ, mJ] [] (wI w (gR w a0 7) 1 ((mI w (gR w a0 7) 1) + (nI 1))) := by
  refine Eq.trans (X_st f_141_238 rfl rfl) ?_
  refine Eq.trans (X_getR f_141_239 h0 rfl h1) ?_
  refine Eq.trans (X_iconst f_141_242 kc_i_1) ?_
  refine Eq.trans (X_dup2 f_141_243 rfl rfl) ?_
  refine Eq.trans (X_iald f_141_244 h2 kn_1 kl_1 h3) ?_
  refine Eq.trans (X_iconst f_141_245 kc_i_1) ?_
  refine Eq.trans (X_st f_141_246 rfl rfl) ?_
  refine Eq.trans (X_iast f_141_247 h2 h4 kn_1 kl_1 h3) ?_
  exact mX_mask rfl
theorem b_141_248 {d : Nat} {a3 : Nat} {w : MW} (h0 : mTg w a3 = 50) (h1 : 2 < mLn w a3) : mX d 141 248 [mJ, mJ, mJ, .ref a3, mJ, mJ, mJ, mJ, mJ] [] w = (if (mI w a3 2) ≤ (nI 1) then mX d 141 264 [mJ, mJ, mJ, mJ, mJ, mJ, mJ, mJ, mJ] [] w else mX d 141 255 [mJ, mJ, mJ, .ref a3, mJ, mJ, mJ, mJ, mJ] [] w) := by
  refine Eq.trans (X_st f_141_248 rfl rfl) ?_
  refine Eq.trans (X_iconst f_141_249 kc_i_2) ?_
  refine Eq.trans (X_iald f_141_250 h0 kn_2 kl_2 h1) ?_
  refine Eq.trans (X_iconst f_141_251 kc_i_1) ?_
  refine Eq.trans (X_br f_141_252 rfl rfl) ?_
  exact mIte_eq (mX_mask rfl) (mX_mask rfl)
theorem b_141_255 {d : Nat} {a3 : Nat} {w : MW} (h0 : mTg w a3 = 50) (h1 : mE ≤ a3) (h2 : 0 < mLn w a3) : mX d 141 255 [mJ, mJ, mJ, .ref a3, mJ, mJ, mJ, mJ, mJ] [] w = mX d 141 259 [mJ, mJ, mJ, .ref a3, mJ, mJ, mJ, mJ, mJ] [] (wI w a3 0 (nI 0)) := by
  refine Eq.trans (X_st f_141_255 rfl rfl) ?_
  refine Eq.trans (X_iconst f_141_256 kc_i_0) ?_
  refine Eq.trans (X_iconst f_141_257 kc_i_0) ?_
  refine Eq.trans (X_iast f_141_258 h0 h1 kn_0 kl_0 h2) ?_
  exact mX_mask rfl
theorem b_141_259 {d : Nat} {a3 : Nat} {w : MW} (h0 : mTg w a3 = 50) (h1 : mE ≤ a3) (h2 : 8 < mLn w a3) : mX d 141 259 [mJ, mJ, mJ, .ref a3, mJ, mJ, mJ, mJ, mJ] [] w = mX d 141 264 [mJ, mJ, mJ, mJ, mJ, mJ, mJ, mJ, mJ] [] (wI w a3 8 (nI 1)) := by
  refine Eq.trans (X_st f_141_259 rfl rfl) ?_
  refine Eq.trans (X_bipush f_141_260 kc_b_8) ?_
  refine Eq.trans (X_iconst f_141_262 kc_i_1) ?_
  refine Eq.trans (X_iast f_141_263 h0 h1 kn_8 kl_8 h2) ?_
  exact mX_mask rfl
theorem b_141_264 {d : Nat} {w : MW} : mX d 141 264 [mJ, mJ, mJ, mJ, mJ, mJ, mJ, mJ, mJ] [] w = some (.inl none, w) := by
  exact X_ret f_141_264 rfl rfl
/-! BeeTurnpikeLaw$Sim next ()V -/
theorem f_142_0 : mFetch 142 0 = some (.aload_n 0, 1, []) := by decide +kernel
theorem f_142_1 : mFetch 142 1 = some (.dup, 1, []) := by decide +kernel
theorem f_142_2 : mFetch 142 2 = some (.getfield 56, 3, [10, 0, 0, 1328]) := by decide +kernel
theorem f_142_5 : mFetch 142 5 = some (.iconst 1, 1, []) := by decide +kernel
theorem f_142_6 : mFetch 142 6 = some (.iadd, 1, []) := by decide +kernel
theorem f_142_7 : mFetch 142 7 = some (.putfield 56, 3, [10, 0, 0, 1328]) := by decide +kernel
theorem f_142_10 : mFetch 142 10 = some (.aload_n 0, 1, []) := by decide +kernel
theorem f_142_11 : mFetch 142 11 = some (.iconst 0, 1, []) := by decide +kernel
theorem f_142_12 : mFetch 142 12 = some (.putfield 68, 3, [10, 5, 0, 1335]) := by decide +kernel
theorem f_142_15 : mFetch 142 15 = some (.aload_n 0, 1, []) := by decide +kernel
theorem f_142_16 : mFetch 142 16 = some (.getfield 65, 3, [10, 4, 0, 1334]) := by decide +kernel
theorem f_142_19 : mFetch 142 19 = some (.iconst 1, 1, []) := by decide +kernel
theorem f_142_20 : mFetch 142 20 = some (.iadd, 1, []) := by decide +kernel
theorem f_142_21 : mFetch 142 21 = some (.istore_n 1, 1, []) := by decide +kernel
theorem f_142_22 : mFetch 142 22 = some (.iload_n 1, 1, []) := by decide +kernel
theorem f_142_23 : mFetch 142 23 = some (.aload_n 0, 1, []) := by decide +kernel
theorem f_142_24 : mFetch 142 24 = some (.getfield 31, 3, [10, 12, 0, 1346]) := by decide +kernel
theorem f_142_27 : mFetch 142 27 = some (.arraylength, 1, []) := by decide +kernel
theorem f_142_28 : mFetch 142 28 = some (.if_icmp .ge 29, 3, [57]) := by decide +kernel
theorem f_142_31 : mFetch 142 31 = some (.aload_n 0, 1, []) := by decide +kernel
theorem f_142_32 : mFetch 142 32 = some (.getfield 31, 3, [10, 12, 0, 1346]) := by decide +kernel
theorem f_142_35 : mFetch 142 35 = some (.iload_n 1, 1, []) := by decide +kernel
theorem f_142_36 : mFetch 142 36 = some (.aaload, 1, []) := by decide +kernel
theorem f_142_37 : mFetch 142 37 = some (.iconst 0, 1, []) := by decide +kernel
theorem f_142_38 : mFetch 142 38 = some (.iaload, 1, []) := by decide +kernel
theorem f_142_39 : mFetch 142 39 = some (.ifCond .ne 6, 3, [45]) := by decide +kernel
theorem f_142_42 : mFetch 142 42 = some (.goto 9, 3, [51]) := by decide +kernel
theorem f_142_45 : mFetch 142 45 = some (.aload_n 0, 1, []) := by decide +kernel
theorem f_142_46 : mFetch 142 46 = some (.iload_n 1, 1, []) := by decide +kernel
theorem f_142_47 : mFetch 142 47 = some (.putfield 65, 3, [10, 4, 0, 1334]) := by decide +kernel
theorem f_142_50 : mFetch 142 50 = some (.return_, 1, []) := by decide +kernel
theorem f_142_51 : mFetch 142 51 = some (.iinc 1 1, 3, []) := by decide +kernel
theorem f_142_54 : mFetch 142 54 = some (.goto (-32), 3, [22]) := by decide +kernel
theorem f_142_57 : mFetch 142 57 = some (.aload_n 0, 1, []) := by decide +kernel
theorem f_142_58 : mFetch 142 58 = some (.invokevirtual 128, 3, [143, 1, 2, 10, 884, 886, 28]) := by decide +kernel
theorem f_142_61 : mFetch 142 61 = some (.return_, 1, []) := by decide +kernel
theorem b_142_0 {d : Nat} {a0 : Nat} {w : MW} (h0 : mTg w a0 = 10) (h1 : mE ≤ a0) : mX d 142 0 [.ref a0, mJ] [] w = mX d 142 10 [.ref a0, mJ] [] (wI w a0 0 ((mI w a0 0) + (nI 1))) := by
  refine Eq.trans (X_st f_142_0 rfl rfl) ?_
  refine Eq.trans (X_dup f_142_1 rfl) ?_
  refine Eq.trans (X_getI f_142_2 h0 rfl) ?_
  refine Eq.trans (X_iconst f_142_5 kc_i_1) ?_
  refine Eq.trans (X_st f_142_6 rfl rfl) ?_
  refine Eq.trans (X_putI f_142_7 h0 h1 rfl rfl) ?_
  exact mX_mask rfl
theorem e_142 {d : Nat} {a0 : Nat} {w : MW} : mK d 142 [.ref a0] w = mX d 142 0 [.ref a0, mJ] [] w := rfl
theorem b_142_10 {d : Nat} {a0 : Nat} {w : MW} (h0 : mTg w a0 = 10) (h1 : mE ≤ a0) : mX d 142 10 [.ref a0, mJ] [] w = mX d 142 15 [.ref a0, mJ] [] (wI w a0 5 (nI 0)) := by
  refine Eq.trans (X_st f_142_10 rfl rfl) ?_
  refine Eq.trans (X_iconst f_142_11 kc_i_0) ?_
  refine Eq.trans (X_putI f_142_12 h0 h1 rfl rfl) ?_
  exact mX_mask rfl
theorem b_142_15 {d : Nat} {a0 : Nat} {w : MW} (h0 : mTg w a0 = 10) : mX d 142 15 [.ref a0, mJ] [] w = mX d 142 22 [.ref a0, .int ((mI w a0 4) + (nI 1))] [] w := by
  refine Eq.trans (X_st f_142_15 rfl rfl) ?_
  refine Eq.trans (X_getI f_142_16 h0 rfl) ?_
  refine Eq.trans (X_iconst f_142_19 kc_i_1) ?_
  refine Eq.trans (X_st f_142_20 rfl rfl) ?_
  refine Eq.trans (X_istore_n (L' := [.ref a0, .int ((mI w a0 4) + (nI 1))]) f_142_21 (Nat.le_of_ble_eq_true rfl) rfl) ?_
  exact mX_mask rfl
theorem b_142_22 {d : Nat} {a0 : Nat} {x1 : Int32} {w : MW} (h0 : mTg w a0 = 10) (h1 : mR w a0 12 = some (gR w a0 12)) (h2 : 50 ≤ mTg w (gR w a0 12) ∧ mTg w (gR w a0 12) < 55) : mX d 142 22 [.ref a0, .int x1] [] w = (if (nI (mLn w (gR w a0 12))) ≤ x1 then mX d 142 57 [.ref a0, mJ] [] w else mX d 142 31 [.ref a0, .int x1] [] w) := by
  refine Eq.trans (X_st f_142_22 rfl rfl) ?_
  refine Eq.trans (X_st f_142_23 rfl rfl) ?_
  refine Eq.trans (X_getR f_142_24 h0 rfl h1) ?_
  refine Eq.trans (X_st f_142_27 rfl (if_pos h2)) ?_
  refine Eq.trans (X_br f_142_28 rfl rfl) ?_
  exact mIte_eq (mX_mask rfl) (mX_mask rfl)
theorem b_142_31 {d : Nat} {a0 : Nat} {x1 : Nat} {w : MW} (h0 : mTg w a0 = 10) (h1 : mR w a0 12 = some (gR w a0 12)) (h2 : 52 ≤ mTg w (gR w a0 12) ∧ mTg w (gR w a0 12) < 55) (h3 : x1 < 2147483648) (h4 : x1 < mLn w (gR w a0 12)) (h5 : mR w (gR w a0 12) x1 = some (gR w (gR w a0 12) x1)) (h6 : mTg w (gR w (gR w a0 12) x1) = 50) (h7 : 0 < mLn w (gR w (gR w a0 12) x1)) : mX d 142 31 [.ref a0, .int (nI x1)] [] w = (if ¬ (mI w (gR w (gR w a0 12) x1) 0) = nI 0 then mX d 142 45 [.ref a0, .int (nI x1)] [] w else mX d 142 42 [.ref a0, .int (nI x1)] [] w) := by
  refine Eq.trans (X_st f_142_31 rfl rfl) ?_
  refine Eq.trans (X_getR f_142_32 h0 rfl h1) ?_
  refine Eq.trans (X_st f_142_35 rfl rfl) ?_
  refine Eq.trans (X_aald f_142_36 h2 (jnn h3) (jcl h3) h4 h5) ?_
  refine Eq.trans (X_iconst f_142_37 kc_i_0) ?_
  refine Eq.trans (X_iald f_142_38 h6 kn_0 kl_0 h7) ?_
  refine Eq.trans (X_br f_142_39 rfl rfl) ?_
  exact mIte_eq (mX_mask rfl) (mX_mask rfl)
theorem b_142_42 {d : Nat} {a0 : Nat} {x1 : Int32} {w : MW} : mX d 142 42 [.ref a0, .int x1] [] w = mX d 142 22 [.ref a0, .int (x1 + (nI 1))] [] w := by
  refine Eq.trans (X_st f_142_42 rfl rfl) ?_
  refine Eq.trans (X_iinc f_142_51 kc_i_1 rfl rfl) ?_
  refine Eq.trans (X_st f_142_54 rfl rfl) ?_
  exact mX_mask rfl
theorem b_142_45 {d : Nat} {a0 : Nat} {x1 : Int32} {w : MW} (h0 : mTg w a0 = 10) (h1 : mE ≤ a0) : mX d 142 45 [.ref a0, .int x1] [] w = mX d 142 50 [mJ, mJ] [] (wI w a0 4 x1) := by
  refine Eq.trans (X_st f_142_45 rfl rfl) ?_
  refine Eq.trans (X_st f_142_46 rfl rfl) ?_
  refine Eq.trans (X_putI f_142_47 h0 h1 rfl rfl) ?_
  exact mX_mask rfl
theorem b_142_50 {d : Nat} {w : MW} : mX d 142 50 [mJ, mJ] [] w = some (.inl none, w) := by
  exact X_ret f_142_50 rfl rfl
theorem b_142_57 {d : Nat} {a0 : Nat} {w : MW} (h0 : mTg w a0 = 10) : mX (d + 1) 142 57 [.ref a0, mJ] [] w = mThen (mK d 143 [.ref a0] w) (fun v w9 => mX (d + 1) 142 61 [mJ, mJ] (v.toList ++ []) w9) := by
  refine Eq.trans (X_st f_142_57 rfl rfl) ?_
  refine Eq.trans (X_call f_142_58 (by decide) rfl rfl rfl rfl rfl rfl (Nat.le_of_ble_eq_true rfl) (Nat.le_of_ble_eq_true rfl) (decide_eq_true h0) (Nat.le_of_ble_eq_true rfl)) ?_
  exact mThen_eq fun v w9 => mX_mask rfl
theorem b_142_61 {d : Nat} {w : MW} : mX d 142 61 [mJ, mJ] [] w = some (.inl none, w) := by
  exact X_ret f_142_61 rfl rfl
/-! BeeTurnpikeLaw$Sim endLap ()V -/
theorem f_143_0 : mFetch 143 0 = some (.aload_n 0, 1, []) := by decide +kernel
theorem f_143_1 : mFetch 143 1 = some (.getfield 31, 3, [10, 12, 0, 1346]) := by decide +kernel
theorem f_143_4 : mFetch 143 4 = some (.astore_n 1, 1, []) := by decide +kernel
theorem f_143_5 : mFetch 143 5 = some (.aload_n 1, 1, []) := by decide +kernel
theorem f_143_6 : mFetch 143 6 = some (.arraylength, 1, []) := by decide +kernel
theorem f_143_7 : mFetch 143 7 = some (.istore_n 2, 1, []) := by decide +kernel
theorem f_143_8 : mFetch 143 8 = some (.iconst 0, 1, []) := by decide +kernel
theorem f_143_9 : mFetch 143 9 = some (.istore_n 3, 1, []) := by decide +kernel
theorem f_143_10 : mFetch 143 10 = some (.iload_n 3, 1, []) := by decide +kernel
theorem f_143_11 : mFetch 143 11 = some (.iload_n 2, 1, []) := by decide +kernel
theorem f_143_12 : mFetch 143 12 = some (.if_icmp .ge 46, 3, [58]) := by decide +kernel
theorem f_143_15 : mFetch 143 15 = some (.aload_n 1, 1, []) := by decide +kernel
theorem f_143_16 : mFetch 143 16 = some (.iload_n 3, 1, []) := by decide +kernel
theorem f_143_17 : mFetch 143 17 = some (.aaload, 1, []) := by decide +kernel
theorem f_143_18 : mFetch 143 18 = some (.astore 4, 2, []) := by decide +kernel
theorem f_143_20 : mFetch 143 20 = some (.aload 4, 2, []) := by decide +kernel
theorem f_143_22 : mFetch 143 22 = some (.bipush 8, 2, []) := by decide +kernel
theorem f_143_24 : mFetch 143 24 = some (.iaload, 1, []) := by decide +kernel
theorem f_143_25 : mFetch 143 25 = some (.iconst 1, 1, []) := by decide +kernel
theorem f_143_26 : mFetch 143 26 = some (.if_icmp .ne 20, 3, [46]) := by decide +kernel
theorem f_143_29 : mFetch 143 29 = some (.aload_n 0, 1, []) := by decide +kernel
theorem f_143_30 : mFetch 143 30 = some (.getfield 71, 3, [10, 6, 0, 1336]) := by decide +kernel
theorem f_143_33 : mFetch 143 33 = some (.ifCond .ne 13, 3, [46]) := by decide +kernel
theorem f_143_36 : mFetch 143 36 = some (.aload 4, 2, []) := by decide +kernel
theorem f_143_38 : mFetch 143 38 = some (.iconst 0, 1, []) := by decide +kernel
theorem f_143_39 : mFetch 143 39 = some (.iconst 1, 1, []) := by decide +kernel
theorem f_143_40 : mFetch 143 40 = some (.iastore, 1, []) := by decide +kernel
theorem f_143_41 : mFetch 143 41 = some (.aload 4, 2, []) := by decide +kernel
theorem f_143_43 : mFetch 143 43 = some (.iconst 2, 1, []) := by decide +kernel
theorem f_143_44 : mFetch 143 44 = some (.iconst 1, 1, []) := by decide +kernel
theorem f_143_45 : mFetch 143 45 = some (.iastore, 1, []) := by decide +kernel
theorem f_143_46 : mFetch 143 46 = some (.aload 4, 2, []) := by decide +kernel
theorem f_143_48 : mFetch 143 48 = some (.bipush 8, 2, []) := by decide +kernel
theorem f_143_50 : mFetch 143 50 = some (.iconst 0, 1, []) := by decide +kernel
theorem f_143_51 : mFetch 143 51 = some (.iastore, 1, []) := by decide +kernel
theorem f_143_52 : mFetch 143 52 = some (.iinc 3 1, 3, []) := by decide +kernel
theorem f_143_55 : mFetch 143 55 = some (.goto (-45), 3, [10]) := by decide +kernel
theorem f_143_58 : mFetch 143 58 = some (.aload_n 0, 1, []) := by decide +kernel
theorem f_143_59 : mFetch 143 59 = some (.iconst 0, 1, []) := by decide +kernel
theorem f_143_60 : mFetch 143 60 = some (.putfield 71, 3, [10, 6, 0, 1336]) := by decide +kernel
theorem f_143_63 : mFetch 143 63 = some (.aload_n 0, 1, []) := by decide +kernel
theorem f_143_64 : mFetch 143 64 = some (.dup, 1, []) := by decide +kernel
theorem f_143_65 : mFetch 143 65 = some (.getfield 59, 3, [10, 2, 0, 1331]) := by decide +kernel
theorem f_143_68 : mFetch 143 68 = some (.iconst 1, 1, []) := by decide +kernel
theorem f_143_69 : mFetch 143 69 = some (.iadd, 1, []) := by decide +kernel
theorem f_143_70 : mFetch 143 70 = some (.putfield 59, 3, [10, 2, 0, 1331]) := by decide +kernel
theorem f_143_73 : mFetch 143 73 = some (.aload_n 0, 1, []) := by decide +kernel
theorem f_143_74 : mFetch 143 74 = some (.invokevirtual 105, 3, [132, 1, 2, 10, 859, 860, 861]) := by decide +kernel
theorem f_143_77 : mFetch 143 77 = some (.iconst 2, 1, []) := by decide +kernel
theorem f_143_78 : mFetch 143 78 = some (.if_icmp .ge 7, 3, [85]) := by decide +kernel
theorem f_143_81 : mFetch 143 81 = some (.iconst 1, 1, []) := by decide +kernel
theorem f_143_82 : mFetch 143 82 = some (.goto 4, 3, [86]) := by decide +kernel
theorem f_143_85 : mFetch 143 85 = some (.iconst 0, 1, []) := by decide +kernel
theorem f_143_86 : mFetch 143 86 = some (.istore_n 1, 1, []) := by decide +kernel
theorem f_143_87 : mFetch 143 87 = some (.iload_n 1, 1, []) := by decide +kernel
theorem f_143_88 : mFetch 143 88 = some (.ifCond .ne 199, 3, [287]) := by decide +kernel
theorem f_143_91 : mFetch 143 91 = some (.aload_n 0, 1, []) := by decide +kernel
theorem f_143_92 : mFetch 143 92 = some (.getfield 59, 3, [10, 2, 0, 1331]) := by decide +kernel
theorem f_143_95 : mFetch 143 95 = some (.aload_n 0, 1, []) := by decide +kernel
theorem f_143_96 : mFetch 143 96 = some (.getfield 40, 3, [10, 15, 0, 1352]) := by decide +kernel
theorem f_143_99 : mFetch 143 99 = some (.aload_n 0, 1, []) := by decide +kernel
theorem f_143_100 : mFetch 143 100 = some (.getfield 7, 3, [10, 1, 0, 1329]) := by decide +kernel
theorem f_143_103 : mFetch 143 103 = some (.aaload, 1, []) := by decide +kernel
theorem f_143_104 : mFetch 143 104 = some (.iconst 1, 1, []) := by decide +kernel
theorem f_143_105 : mFetch 143 105 = some (.iaload, 1, []) := by decide +kernel
theorem f_143_106 : mFetch 143 106 = some (.if_icmp .ne 181, 3, [287]) := by decide +kernel
theorem f_143_109 : mFetch 143 109 = some (.iconst 0, 1, []) := by decide +kernel
theorem f_143_110 : mFetch 143 110 = some (.istore_n 2, 1, []) := by decide +kernel
theorem f_143_111 : mFetch 143 111 = some (.aload_n 0, 1, []) := by decide +kernel
theorem f_143_112 : mFetch 143 112 = some (.getfield 31, 3, [10, 12, 0, 1346]) := by decide +kernel
theorem f_143_115 : mFetch 143 115 = some (.astore_n 3, 1, []) := by decide +kernel
theorem f_143_116 : mFetch 143 116 = some (.aload_n 3, 1, []) := by decide +kernel
theorem f_143_117 : mFetch 143 117 = some (.arraylength, 1, []) := by decide +kernel
theorem f_143_118 : mFetch 143 118 = some (.istore 4, 2, []) := by decide +kernel
theorem f_143_120 : mFetch 143 120 = some (.iconst 0, 1, []) := by decide +kernel
theorem f_143_121 : mFetch 143 121 = some (.istore 5, 2, []) := by decide +kernel
theorem f_143_123 : mFetch 143 123 = some (.iload 5, 2, []) := by decide +kernel
theorem f_143_125 : mFetch 143 125 = some (.iload 4, 2, []) := by decide +kernel
theorem f_143_127 : mFetch 143 127 = some (.if_icmp .ge 49, 3, [176]) := by decide +kernel
theorem f_143_130 : mFetch 143 130 = some (.aload_n 3, 1, []) := by decide +kernel
theorem f_143_131 : mFetch 143 131 = some (.iload 5, 2, []) := by decide +kernel
theorem f_143_133 : mFetch 143 133 = some (.aaload, 1, []) := by decide +kernel
theorem f_143_134 : mFetch 143 134 = some (.astore 6, 2, []) := by decide +kernel
theorem f_143_136 : mFetch 143 136 = some (.iload_n 2, 1, []) := by decide +kernel
theorem f_143_137 : mFetch 143 137 = some (.aload 6, 2, []) := by decide +kernel
theorem f_143_139 : mFetch 143 139 = some (.iconst 0, 1, []) := by decide +kernel
theorem f_143_140 : mFetch 143 140 = some (.iaload, 1, []) := by decide +kernel
theorem f_143_141 : mFetch 143 141 = some (.iconst 1, 1, []) := by decide +kernel
theorem f_143_142 : mFetch 143 142 = some (.if_icmp .ne 25, 3, [167]) := by decide +kernel
theorem f_143_145 : mFetch 143 145 = some (.aload 6, 2, []) := by decide +kernel
theorem f_143_147 : mFetch 143 147 = some (.iconst 1, 1, []) := by decide +kernel
theorem f_143_148 : mFetch 143 148 = some (.iaload, 1, []) := by decide +kernel
theorem f_143_149 : mFetch 143 149 = some (.aload_n 0, 1, []) := by decide +kernel
theorem f_143_150 : mFetch 143 150 = some (.getfield 40, 3, [10, 15, 0, 1352]) := by decide +kernel
theorem f_143_153 : mFetch 143 153 = some (.aload_n 0, 1, []) := by decide +kernel
theorem f_143_154 : mFetch 143 154 = some (.getfield 7, 3, [10, 1, 0, 1329]) := by decide +kernel
theorem f_143_157 : mFetch 143 157 = some (.aaload, 1, []) := by decide +kernel
theorem f_143_158 : mFetch 143 158 = some (.iconst 0, 1, []) := by decide +kernel
theorem f_143_159 : mFetch 143 159 = some (.iaload, 1, []) := by decide +kernel
theorem f_143_160 : mFetch 143 160 = some (.if_icmp .lt 7, 3, [167]) := by decide +kernel
theorem f_143_163 : mFetch 143 163 = some (.iconst 1, 1, []) := by decide +kernel
theorem f_143_164 : mFetch 143 164 = some (.goto 4, 3, [168]) := by decide +kernel
theorem f_143_167 : mFetch 143 167 = some (.iconst 0, 1, []) := by decide +kernel
theorem f_143_168 : mFetch 143 168 = some (.iadd, 1, []) := by decide +kernel
theorem f_143_169 : mFetch 143 169 = some (.istore_n 2, 1, []) := by decide +kernel
theorem f_143_170 : mFetch 143 170 = some (.iinc 5 1, 3, []) := by decide +kernel
theorem f_143_173 : mFetch 143 173 = some (.goto (-50), 3, [123]) := by decide +kernel
theorem f_143_176 : mFetch 143 176 = some (.aload_n 0, 1, []) := by decide +kernel
theorem f_143_177 : mFetch 143 177 = some (.getfield 31, 3, [10, 12, 0, 1346]) := by decide +kernel
theorem f_143_180 : mFetch 143 180 = some (.astore_n 3, 1, []) := by decide +kernel
theorem f_143_181 : mFetch 143 181 = some (.aload_n 3, 1, []) := by decide +kernel
theorem f_143_182 : mFetch 143 182 = some (.arraylength, 1, []) := by decide +kernel
theorem f_143_183 : mFetch 143 183 = some (.istore 4, 2, []) := by decide +kernel
theorem f_143_185 : mFetch 143 185 = some (.iconst 0, 1, []) := by decide +kernel
theorem f_143_186 : mFetch 143 186 = some (.istore 5, 2, []) := by decide +kernel
theorem f_143_188 : mFetch 143 188 = some (.iload 5, 2, []) := by decide +kernel
theorem f_143_190 : mFetch 143 190 = some (.iload 4, 2, []) := by decide +kernel
theorem f_143_192 : mFetch 143 192 = some (.if_icmp .ge 47, 3, [239]) := by decide +kernel
theorem f_143_195 : mFetch 143 195 = some (.aload_n 3, 1, []) := by decide +kernel
theorem f_143_196 : mFetch 143 196 = some (.iload 5, 2, []) := by decide +kernel
theorem f_143_198 : mFetch 143 198 = some (.aaload, 1, []) := by decide +kernel
theorem f_143_199 : mFetch 143 199 = some (.astore 6, 2, []) := by decide +kernel
theorem f_143_201 : mFetch 143 201 = some (.iload_n 2, 1, []) := by decide +kernel
theorem f_143_202 : mFetch 143 202 = some (.ifCond .le 26, 3, [228]) := by decide +kernel
theorem f_143_205 : mFetch 143 205 = some (.aload 6, 2, []) := by decide +kernel
theorem f_143_207 : mFetch 143 207 = some (.iconst 1, 1, []) := by decide +kernel
theorem f_143_208 : mFetch 143 208 = some (.iaload, 1, []) := by decide +kernel
theorem f_143_209 : mFetch 143 209 = some (.aload_n 0, 1, []) := by decide +kernel
theorem f_143_210 : mFetch 143 210 = some (.getfield 40, 3, [10, 15, 0, 1352]) := by decide +kernel
theorem f_143_213 : mFetch 143 213 = some (.aload_n 0, 1, []) := by decide +kernel
theorem f_143_214 : mFetch 143 214 = some (.getfield 7, 3, [10, 1, 0, 1329]) := by decide +kernel
theorem f_143_217 : mFetch 143 217 = some (.aaload, 1, []) := by decide +kernel
theorem f_143_218 : mFetch 143 218 = some (.iconst 0, 1, []) := by decide +kernel
theorem f_143_219 : mFetch 143 219 = some (.iaload, 1, []) := by decide +kernel
theorem f_143_220 : mFetch 143 220 = some (.if_icmp .ge 8, 3, [228]) := by decide +kernel
theorem f_143_223 : mFetch 143 223 = some (.aload 6, 2, []) := by decide +kernel
theorem f_143_225 : mFetch 143 225 = some (.iconst 0, 1, []) := by decide +kernel
theorem f_143_226 : mFetch 143 226 = some (.iconst 0, 1, []) := by decide +kernel
theorem f_143_227 : mFetch 143 227 = some (.iastore, 1, []) := by decide +kernel
theorem f_143_228 : mFetch 143 228 = some (.aload 6, 2, []) := by decide +kernel
theorem f_143_230 : mFetch 143 230 = some (.iconst 2, 1, []) := by decide +kernel
theorem f_143_231 : mFetch 143 231 = some (.iconst 0, 1, []) := by decide +kernel
theorem f_143_232 : mFetch 143 232 = some (.iastore, 1, []) := by decide +kernel
theorem f_143_233 : mFetch 143 233 = some (.iinc 5 1, 3, []) := by decide +kernel
theorem f_143_236 : mFetch 143 236 = some (.goto (-48), 3, [188]) := by decide +kernel
theorem f_143_239 : mFetch 143 239 = some (.aload_n 0, 1, []) := by decide +kernel
theorem f_143_240 : mFetch 143 240 = some (.invokevirtual 105, 3, [132, 1, 2, 10, 859, 860, 861]) := by decide +kernel
theorem f_143_243 : mFetch 143 243 = some (.iconst 2, 1, []) := by decide +kernel
theorem f_143_244 : mFetch 143 244 = some (.if_icmp .lt 17, 3, [261]) := by decide +kernel
theorem f_143_247 : mFetch 143 247 = some (.aload_n 0, 1, []) := by decide +kernel
theorem f_143_248 : mFetch 143 248 = some (.getfield 7, 3, [10, 1, 0, 1329]) := by decide +kernel
theorem f_143_251 : mFetch 143 251 = some (.aload_n 0, 1, []) := by decide +kernel
theorem f_143_252 : mFetch 143 252 = some (.getfield 40, 3, [10, 15, 0, 1352]) := by decide +kernel
theorem f_143_255 : mFetch 143 255 = some (.arraylength, 1, []) := by decide +kernel
theorem f_143_256 : mFetch 143 256 = some (.iconst 1, 1, []) := by decide +kernel
theorem f_143_257 : mFetch 143 257 = some (.isub, 1, []) := by decide +kernel
theorem f_143_258 : mFetch 143 258 = some (.if_icmp .ne 7, 3, [265]) := by decide +kernel
theorem f_143_261 : mFetch 143 261 = some (.iconst 1, 1, []) := by decide +kernel
theorem f_143_262 : mFetch 143 262 = some (.goto 4, 3, [266]) := by decide +kernel
theorem f_143_265 : mFetch 143 265 = some (.iconst 0, 1, []) := by decide +kernel
theorem f_143_266 : mFetch 143 266 = some (.istore_n 1, 1, []) := by decide +kernel
theorem f_143_267 : mFetch 143 267 = some (.aload_n 0, 1, []) := by decide +kernel
theorem f_143_268 : mFetch 143 268 = some (.dup, 1, []) := by decide +kernel
theorem f_143_269 : mFetch 143 269 = some (.getfield 7, 3, [10, 1, 0, 1329]) := by decide +kernel
theorem f_143_272 : mFetch 143 272 = some (.iconst 1, 1, []) := by decide +kernel
theorem f_143_273 : mFetch 143 273 = some (.iadd, 1, []) := by decide +kernel
theorem f_143_274 : mFetch 143 274 = some (.putfield 7, 3, [10, 1, 0, 1329]) := by decide +kernel
theorem f_143_277 : mFetch 143 277 = some (.aload_n 0, 1, []) := by decide +kernel
theorem f_143_278 : mFetch 143 278 = some (.iconst 0, 1, []) := by decide +kernel
theorem f_143_279 : mFetch 143 279 = some (.putfield 59, 3, [10, 2, 0, 1331]) := by decide +kernel
theorem f_143_282 : mFetch 143 282 = some (.aload_n 0, 1, []) := by decide +kernel
theorem f_143_283 : mFetch 143 283 = some (.iconst 0, 1, []) := by decide +kernel
theorem f_143_284 : mFetch 143 284 = some (.putfield 62, 3, [10, 3, 0, 1332]) := by decide +kernel
theorem f_143_287 : mFetch 143 287 = some (.iload_n 1, 1, []) := by decide +kernel
theorem f_143_288 : mFetch 143 288 = some (.ifCond .eq 8, 3, [296]) := by decide +kernel
theorem f_143_291 : mFetch 143 291 = some (.aload_n 0, 1, []) := by decide +kernel
theorem f_143_292 : mFetch 143 292 = some (.iconst (-1), 1, []) := by decide +kernel
theorem f_143_293 : mFetch 143 293 = some (.putfield 7, 3, [10, 1, 0, 1329]) := by decide +kernel
theorem f_143_296 : mFetch 143 296 = some (.aload_n 0, 1, []) := by decide +kernel
theorem f_143_297 : mFetch 143 297 = some (.iconst 0, 1, []) := by decide +kernel
theorem f_143_298 : mFetch 143 298 = some (.putfield 65, 3, [10, 4, 0, 1334]) := by decide +kernel
theorem f_143_301 : mFetch 143 301 = some (.aload_n 0, 1, []) := by decide +kernel
theorem f_143_302 : mFetch 143 302 = some (.getfield 65, 3, [10, 4, 0, 1334]) := by decide +kernel
theorem f_143_305 : mFetch 143 305 = some (.iconst 1, 1, []) := by decide +kernel
theorem f_143_306 : mFetch 143 306 = some (.iadd, 1, []) := by decide +kernel
theorem f_143_307 : mFetch 143 307 = some (.aload_n 0, 1, []) := by decide +kernel
theorem f_143_308 : mFetch 143 308 = some (.getfield 31, 3, [10, 12, 0, 1346]) := by decide +kernel
theorem f_143_311 : mFetch 143 311 = some (.arraylength, 1, []) := by decide +kernel
theorem f_143_312 : mFetch 143 312 = some (.if_icmp .ge 30, 3, [342]) := by decide +kernel
theorem f_143_315 : mFetch 143 315 = some (.aload_n 0, 1, []) := by decide +kernel
theorem f_143_316 : mFetch 143 316 = some (.getfield 31, 3, [10, 12, 0, 1346]) := by decide +kernel
theorem f_143_319 : mFetch 143 319 = some (.aload_n 0, 1, []) := by decide +kernel
theorem f_143_320 : mFetch 143 320 = some (.getfield 65, 3, [10, 4, 0, 1334]) := by decide +kernel
theorem f_143_323 : mFetch 143 323 = some (.aaload, 1, []) := by decide +kernel
theorem f_143_324 : mFetch 143 324 = some (.iconst 0, 1, []) := by decide +kernel
theorem f_143_325 : mFetch 143 325 = some (.iaload, 1, []) := by decide +kernel
theorem f_143_326 : mFetch 143 326 = some (.ifCond .ne 16, 3, [342]) := by decide +kernel
theorem f_143_329 : mFetch 143 329 = some (.aload_n 0, 1, []) := by decide +kernel
theorem f_143_330 : mFetch 143 330 = some (.dup, 1, []) := by decide +kernel
theorem f_143_331 : mFetch 143 331 = some (.getfield 65, 3, [10, 4, 0, 1334]) := by decide +kernel
theorem f_143_334 : mFetch 143 334 = some (.iconst 1, 1, []) := by decide +kernel
theorem f_143_335 : mFetch 143 335 = some (.iadd, 1, []) := by decide +kernel
theorem f_143_336 : mFetch 143 336 = some (.putfield 65, 3, [10, 4, 0, 1334]) := by decide +kernel
theorem f_143_339 : mFetch 143 339 = some (.goto (-38), 3, [301]) := by decide +kernel
theorem f_143_342 : mFetch 143 342 = some (.return_, 1, []) := by decide +kernel
theorem lm_143_10 : mLvm 143 10 = 15 := by decide +kernel
theorem lm_143_15 : mLvm 143 15 = 15 := by decide +kernel
theorem lm_143_29 : mLvm 143 29 = 31 := by decide +kernel
theorem lm_143_36 : mLvm 143 36 = 31 := by decide +kernel
theorem lm_143_41 : mLvm 143 41 = 31 := by decide +kernel
theorem lm_143_46 : mLvm 143 46 = 31 := by decide +kernel
theorem lm_143_52 : mLvm 143 52 = 15 := by decide +kernel
theorem lm_143_58 : mLvm 143 58 = 1 := by decide +kernel
theorem lm_143_63 : mLvm 143 63 = 1 := by decide +kernel
theorem lm_143_73 : mLvm 143 73 = 1 := by decide +kernel
theorem lm_143_77 : mLvm 143 77 = 1 := by decide +kernel
theorem lm_143_81 : mLvm 143 81 = 1 := by decide +kernel
theorem lm_143_85 : mLvm 143 85 = 1 := by decide +kernel
theorem lm_143_86 : mLvm 143 86 = 1 := by decide +kernel
theorem lm_143_91 : mLvm 143 91 = 3 := by decide +kernel
theorem lm_143_109 : mLvm 143 109 = 1 := by decide +kernel
theorem lm_143_123 : mLvm 143 123 = 61 := by decide +kernel
theorem lm_143_130 : mLvm 143 130 = 61 := by decide +kernel
theorem lm_143_145 : mLvm 143 145 = 121 := by decide +kernel
theorem lm_143_163 : mLvm 143 163 = 57 := by decide +kernel
theorem lm_143_167 : mLvm 143 167 = 57 := by decide +kernel
theorem lm_143_168 : mLvm 143 168 = 57 := by decide +kernel
theorem lm_143_176 : mLvm 143 176 = 5 := by decide +kernel
theorem lm_143_188 : mLvm 143 188 = 61 := by decide +kernel
theorem lm_143_195 : mLvm 143 195 = 61 := by decide +kernel
theorem lm_143_205 : mLvm 143 205 = 125 := by decide +kernel
theorem lm_143_223 : mLvm 143 223 = 125 := by decide +kernel
theorem lm_143_228 : mLvm 143 228 = 125 := by decide +kernel
theorem lm_143_233 : mLvm 143 233 = 61 := by decide +kernel
theorem lm_143_239 : mLvm 143 239 = 1 := by decide +kernel
theorem lm_143_243 : mLvm 143 243 = 1 := by decide +kernel
theorem lm_143_247 : mLvm 143 247 = 1 := by decide +kernel
theorem lm_143_261 : mLvm 143 261 = 1 := by decide +kernel
theorem lm_143_265 : mLvm 143 265 = 1 := by decide +kernel
theorem lm_143_266 : mLvm 143 266 = 1 := by decide +kernel
theorem lm_143_277 : mLvm 143 277 = 3 := by decide +kernel
theorem lm_143_282 : mLvm 143 282 = 3 := by decide +kernel
theorem lm_143_287 : mLvm 143 287 = 3 := by decide +kernel
theorem lm_143_291 : mLvm 143 291 = 1 := by decide +kernel
theorem lm_143_296 : mLvm 143 296 = 1 := by decide +kernel
theorem lm_143_301 : mLvm 143 301 = 1 := by decide +kernel
theorem lm_143_315 : mLvm 143 315 = 1 := by decide +kernel
theorem lm_143_329 : mLvm 143 329 = 1 := by decide +kernel
theorem lm_143_339 : mLvm 143 339 = 1 := by decide +kernel
theorem lm_143_342 : mLvm 143 342 = 0 := by decide +kernel
theorem b_143_0 {d : Nat} {a0 : Nat} {w : MW} (h0 : mTg w a0 = 10) (h1 : mR w a0 12 = some (gR w a0 12)) (h2 : 50 ≤ mTg w (gR w a0 12) ∧ mTg w (gR w a0 12) < 55) : mX d 143 0 [.ref a0, mJ, mJ, mJ, mJ, mJ, mJ] [] w = mX d 143 10 [.ref a0, .ref (gR w a0 12), .int (nI (mLn w (gR w a0 12))), .int (nI 0), mJ, mJ, mJ] [] w := by
  refine Eq.trans (X_st f_143_0 rfl rfl) ?_
  refine Eq.trans (X_getR f_143_1 h0 rfl h1) ?_
  refine Eq.trans (X_astore_n (L' := [.ref a0, .ref (gR w a0 12), mJ, mJ, mJ, mJ, mJ]) f_143_4 (Nat.le_of_ble_eq_true rfl) rfl) ?_
  refine Eq.trans (X_st f_143_5 rfl rfl) ?_
  refine Eq.trans (X_st f_143_6 rfl (if_pos h2)) ?_
  refine Eq.trans (X_istore_n (L' := [.ref a0, .ref (gR w a0 12), .int (nI (mLn w (gR w a0 12))), mJ, mJ, mJ, mJ]) f_143_7 (Nat.le_of_ble_eq_true rfl) rfl) ?_
  refine Eq.trans (X_iconst f_143_8 kc_i_0) ?_
  refine Eq.trans (X_istore_n (L' := [.ref a0, .ref (gR w a0 12), .int (nI (mLn w (gR w a0 12))), .int (nI 0), mJ, mJ, mJ]) f_143_9 (Nat.le_of_ble_eq_true rfl) rfl) ?_
  exact mX_maskK lm_143_10 rfl
theorem e_143 {d : Nat} {a0 : Nat} {w : MW} : mK d 143 [.ref a0] w = mX d 143 0 [.ref a0, mJ, mJ, mJ, mJ, mJ, mJ] [] w := rfl
theorem b_143_10 {d : Nat} {a0 : Nat} {a1 : Nat} {x2 : Int32} {x3 : Int32} {w : MW} : mX d 143 10 [.ref a0, .ref a1, .int x2, .int x3, mJ, mJ, mJ] [] w = (if x2 ≤ x3 then mX d 143 58 [.ref a0, mJ, mJ, mJ, mJ, mJ, mJ] [] w else mX d 143 15 [.ref a0, .ref a1, .int x2, .int x3, mJ, mJ, mJ] [] w) := by
  refine Eq.trans (X_st f_143_10 rfl rfl) ?_
  refine Eq.trans (X_st f_143_11 rfl rfl) ?_
  refine Eq.trans (X_br f_143_12 rfl rfl) ?_
  exact mIte_eq (mX_maskK lm_143_58 rfl) (mX_maskK lm_143_15 rfl)
theorem b_143_15 {d : Nat} {a0 : Nat} {a1 : Nat} {x2 : Int32} {x3 : Nat} {w : MW} (h0 : 52 ≤ mTg w a1 ∧ mTg w a1 < 55) (h1 : x3 < 2147483648) (h2 : x3 < mLn w a1) (h3 : mR w a1 x3 = some (gR w a1 x3)) (h4 : mTg w (gR w a1 x3) = 50) (h5 : 8 < mLn w (gR w a1 x3)) : mX d 143 15 [.ref a0, .ref a1, .int x2, .int (nI x3), mJ, mJ, mJ] [] w = (if ¬ (mI w (gR w a1 x3) 8) = (nI 1) then mX d 143 46 [.ref a0, .ref a1, .int x2, .int (nI x3), .ref (gR w a1 x3), mJ, mJ] [] w else mX d 143 29 [.ref a0, .ref a1, .int x2, .int (nI x3), .ref (gR w a1 x3), mJ, mJ] [] w) := by
  refine Eq.trans (X_st f_143_15 rfl rfl) ?_
  refine Eq.trans (X_st f_143_16 rfl rfl) ?_
  refine Eq.trans (X_aald f_143_17 h0 (jnn h1) (jcl h1) h2 h3) ?_
  refine Eq.trans (X_astore (L' := [.ref a0, .ref a1, .int x2, .int (nI x3), .ref (gR w a1 x3), mJ, mJ]) f_143_18 (Nat.le_of_ble_eq_true rfl) rfl) ?_
  refine Eq.trans (X_st f_143_20 rfl rfl) ?_
  refine Eq.trans (X_bipush f_143_22 kc_b_8) ?_
  refine Eq.trans (X_iald f_143_24 h4 kn_8 kl_8 h5) ?_
  refine Eq.trans (X_iconst f_143_25 kc_i_1) ?_
  refine Eq.trans (X_br f_143_26 rfl rfl) ?_
  exact mIte_eq (mX_maskK lm_143_46 rfl) (mX_maskK lm_143_29 rfl)
theorem b_143_29 {d : Nat} {a0 : Nat} {a1 : Nat} {x2 : Int32} {x3 : Int32} {a4 : Nat} {w : MW} (h0 : mTg w a0 = 10) : mX d 143 29 [.ref a0, .ref a1, .int x2, .int x3, .ref a4, mJ, mJ] [] w = (if ¬ (mI w a0 6) = nI 0 then mX d 143 46 [.ref a0, .ref a1, .int x2, .int x3, .ref a4, mJ, mJ] [] w else mX d 143 36 [.ref a0, .ref a1, .int x2, .int x3, .ref a4, mJ, mJ] [] w) := by
  refine Eq.trans (X_st f_143_29 rfl rfl) ?_
  refine Eq.trans (X_getI f_143_30 h0 rfl) ?_
  refine Eq.trans (X_br f_143_33 rfl rfl) ?_
  exact mIte_eq (mX_maskK lm_143_46 rfl) (mX_maskK lm_143_36 rfl)
theorem b_143_36 {d : Nat} {a0 : Nat} {a1 : Nat} {x2 : Int32} {x3 : Int32} {a4 : Nat} {w : MW} (h0 : mTg w a4 = 50) (h1 : mE ≤ a4) (h2 : 0 < mLn w a4) : mX d 143 36 [.ref a0, .ref a1, .int x2, .int x3, .ref a4, mJ, mJ] [] w = mX d 143 41 [.ref a0, .ref a1, .int x2, .int x3, .ref a4, mJ, mJ] [] (wI w a4 0 (nI 1)) := by
  refine Eq.trans (X_st f_143_36 rfl rfl) ?_
  refine Eq.trans (X_iconst f_143_38 kc_i_0) ?_
  refine Eq.trans (X_iconst f_143_39 kc_i_1) ?_
  refine Eq.trans (X_iast f_143_40 h0 h1 kn_0 kl_0 h2) ?_
  exact mX_maskK lm_143_41 rfl
theorem b_143_41 {d : Nat} {a0 : Nat} {a1 : Nat} {x2 : Int32} {x3 : Int32} {a4 : Nat} {w : MW} (h0 : mTg w a4 = 50) (h1 : mE ≤ a4) (h2 : 2 < mLn w a4) : mX d 143 41 [.ref a0, .ref a1, .int x2, .int x3, .ref a4, mJ, mJ] [] w = mX d 143 46 [.ref a0, .ref a1, .int x2, .int x3, .ref a4, mJ, mJ] [] (wI w a4 2 (nI 1)) := by
  refine Eq.trans (X_st f_143_41 rfl rfl) ?_
  refine Eq.trans (X_iconst f_143_43 kc_i_2) ?_
  refine Eq.trans (X_iconst f_143_44 kc_i_1) ?_
  refine Eq.trans (X_iast f_143_45 h0 h1 kn_2 kl_2 h2) ?_
  exact mX_maskK lm_143_46 rfl
theorem b_143_46 {d : Nat} {a0 : Nat} {a1 : Nat} {x2 : Int32} {x3 : Int32} {a4 : Nat} {w : MW} (h0 : mTg w a4 = 50) (h1 : mE ≤ a4) (h2 : 8 < mLn w a4) : mX d 143 46 [.ref a0, .ref a1, .int x2, .int x3, .ref a4, mJ, mJ] [] w = mX d 143 52 [.ref a0, .ref a1, .int x2, .int x3, mJ, mJ, mJ] [] (wI w a4 8 (nI 0)) := by
  refine Eq.trans (X_st f_143_46 rfl rfl) ?_
  refine Eq.trans (X_bipush f_143_48 kc_b_8) ?_
  refine Eq.trans (X_iconst f_143_50 kc_i_0) ?_
  refine Eq.trans (X_iast f_143_51 h0 h1 kn_8 kl_8 h2) ?_
  exact mX_maskK lm_143_52 rfl
theorem b_143_52 {d : Nat} {a0 : Nat} {a1 : Nat} {x2 : Int32} {x3 : Int32} {w : MW} : mX d 143 52 [.ref a0, .ref a1, .int x2, .int x3, mJ, mJ, mJ] [] w = mX d 143 10 [.ref a0, .ref a1, .int x2, .int (x3 + (nI 1)), mJ, mJ, mJ] [] w := by
  refine Eq.trans (X_iinc f_143_52 kc_i_1 rfl rfl) ?_
  refine Eq.trans (X_st f_143_55 rfl rfl) ?_
  exact mX_maskK lm_143_10 rfl
theorem b_143_58 {d : Nat} {a0 : Nat} {w : MW} (h0 : mTg w a0 = 10) (h1 : mE ≤ a0) : mX d 143 58 [.ref a0, mJ, mJ, mJ, mJ, mJ, mJ] [] w = mX d 143 63 [.ref a0, mJ, mJ, mJ, mJ, mJ, mJ] [] (wI w a0 6 (nI 0)) := by
  refine Eq.trans (X_st f_143_58 rfl rfl) ?_
  refine Eq.trans (X_iconst f_143_59 kc_i_0) ?_
  refine Eq.trans (X_putI f_143_60 h0 h1 rfl rfl) ?_
  exact mX_maskK lm_143_63 rfl
theorem b_143_63 {d : Nat} {a0 : Nat} {w : MW} (h0 : mTg w a0 = 10) (h1 : mE ≤ a0) : mX d 143 63 [.ref a0, mJ, mJ, mJ, mJ, mJ, mJ] [] w = mX d 143 73 [.ref a0, mJ, mJ, mJ, mJ, mJ, mJ] [] (wI w a0 2 ((mI w a0 2) + (nI 1))) := by
  refine Eq.trans (X_st f_143_63 rfl rfl) ?_
  refine Eq.trans (X_dup f_143_64 rfl) ?_
  refine Eq.trans (X_getI f_143_65 h0 rfl) ?_
  refine Eq.trans (X_iconst f_143_68 kc_i_1) ?_
  refine Eq.trans (X_st f_143_69 rfl rfl) ?_
  refine Eq.trans (X_putI f_143_70 h0 h1 rfl rfl) ?_
  exact mX_maskK lm_143_73 rfl
theorem b_143_73 {d : Nat} {a0 : Nat} {w : MW} (h0 : mTg w a0 = 10) : mX (d + 1) 143 73 [.ref a0, mJ, mJ, mJ, mJ, mJ, mJ] [] w = mThen (mK d 132 [.ref a0] w) (fun v w9 => mX (d + 1) 143 77 [.ref a0, mJ, mJ, mJ, mJ, mJ, mJ] (v.toList ++ []) w9) := by
  refine Eq.trans (X_st f_143_73 rfl rfl) ?_
  refine Eq.trans (X_call f_143_74 (by decide) rfl rfl rfl rfl rfl rfl (Nat.le_of_ble_eq_true rfl) (Nat.le_of_ble_eq_true rfl) (decide_eq_true h0) (Nat.le_of_ble_eq_true rfl)) ?_
  exact mThen_eq fun v w9 => mX_maskK lm_143_77 rfl
theorem b_143_77 {d : Nat} {a0 : Nat} {y0 : Int32} {w : MW} : mX d 143 77 [.ref a0, mJ, mJ, mJ, mJ, mJ, mJ] [.int y0] w = (if (nI 2) ≤ y0 then mX d 143 85 [.ref a0, mJ, mJ, mJ, mJ, mJ, mJ] [] w else mX d 143 81 [.ref a0, mJ, mJ, mJ, mJ, mJ, mJ] [] w) := by
  refine Eq.trans (X_iconst f_143_77 kc_i_2) ?_
  refine Eq.trans (X_br f_143_78 rfl rfl) ?_
  exact mIte_eq (mX_maskK lm_143_85 rfl) (mX_maskK lm_143_81 rfl)
theorem b_143_81 {d : Nat} {a0 : Nat} {w : MW} : mX d 143 81 [.ref a0, mJ, mJ, mJ, mJ, mJ, mJ] [] w = mX d 143 86 [.ref a0, mJ, mJ, mJ, mJ, mJ, mJ] [.int (nI 1)] w := by
  refine Eq.trans (X_iconst f_143_81 kc_i_1) ?_
  refine Eq.trans (X_st f_143_82 rfl rfl) ?_
  exact mX_maskK lm_143_86 rfl
theorem b_143_85 {d : Nat} {a0 : Nat} {w : MW} : mX d 143 85 [.ref a0, mJ, mJ, mJ, mJ, mJ, mJ] [] w = mX d 143 86 [.ref a0, mJ, mJ, mJ, mJ, mJ, mJ] [.int (nI 0)] w := by
  refine Eq.trans (X_iconst f_143_85 kc_i_0) ?_
  exact mX_maskK lm_143_86 rfl
theorem b_143_86 {d : Nat} {a0 : Nat} {y0 : Int32} {w : MW} : mX d 143 86 [.ref a0, mJ, mJ, mJ, mJ, mJ, mJ] [.int y0] w = (if ¬ y0 = nI 0 then mX d 143 287 [.ref a0, .int y0, mJ, mJ, mJ, mJ, mJ] [] w else mX d 143 91 [.ref a0, .int y0, mJ, mJ, mJ, mJ, mJ] [] w) := by
  refine Eq.trans (X_istore_n (L' := [.ref a0, .int y0, mJ, mJ, mJ, mJ, mJ]) f_143_86 (Nat.le_of_ble_eq_true rfl) rfl) ?_
  refine Eq.trans (X_st f_143_87 rfl rfl) ?_
  refine Eq.trans (X_br f_143_88 rfl rfl) ?_
  exact mIte_eq (mX_maskK lm_143_287 rfl) (mX_maskK lm_143_91 rfl)
theorem b_143_91 {d : Nat} {a0 : Nat} {x1 : Int32} {z0 : Nat} {w : MW} (h0 : mTg w a0 = 10) (h1 : mR w a0 15 = some (gR w a0 15)) (h2 : 52 ≤ mTg w (gR w a0 15) ∧ mTg w (gR w a0 15) < 55) (h3 : (mI w a0 1) = nI z0) (h4 : z0 < 2147483648) (h5 : z0 < mLn w (gR w a0 15)) (h6 : mR w (gR w a0 15) z0 = some (gR w (gR w a0 15) z0)) (h7 : mTg w (gR w (gR w a0 15) z0) = 50) (h8 : 1 < mLn w (gR w (gR w a0 15) z0)) : mX d 143 91 [.ref a0, .int x1, mJ, mJ, mJ, mJ, mJ] [] w = (if ¬ (mI w a0 2) = (mI w (gR w (gR w a0 15) z0) 1) then mX d 143 287 [.ref a0, .int x1, mJ, mJ, mJ, mJ, mJ] [] w else mX d 143 109 [.ref a0, mJ, mJ, mJ, mJ, mJ, mJ] [] w) := by
  refine Eq.trans (X_st f_143_91 rfl rfl) ?_
  refine Eq.trans (X_getI f_143_92 h0 rfl) ?_
  refine Eq.trans (X_st f_143_95 rfl rfl) ?_
  refine Eq.trans (X_getR f_143_96 h0 rfl h1) ?_
  refine Eq.trans (X_st f_143_99 rfl rfl) ?_
  refine Eq.trans (X_getI f_143_100 h0 rfl) ?_
  refine Eq.trans (X_aald f_143_103 h2 (jnnE h3 h4) (jclE h3 h4) h5 h6) ?_
  refine Eq.trans (X_iconst f_143_104 kc_i_1) ?_
  refine Eq.trans (X_iald f_143_105 h7 kn_1 kl_1 h8) ?_
  refine Eq.trans (X_br f_143_106 rfl rfl) ?_
  exact mIte_eq (mX_maskK lm_143_287 rfl) (mX_maskK lm_143_109 rfl)
theorem b_143_109 {d : Nat} {a0 : Nat} {w : MW} (h0 : mTg w a0 = 10) (h1 : mR w a0 12 = some (gR w a0 12)) (h2 : 50 ≤ mTg w (gR w a0 12) ∧ mTg w (gR w a0 12) < 55) : mX d 143 109 [.ref a0, mJ, mJ, mJ, mJ, mJ, mJ] [] w = mX d 143 123 [.ref a0, mJ, .int (nI 0), .ref (gR w a0 12), .int (nI (mLn w (gR w a0 12))), .int (nI 0), mJ] [] w := by
  refine Eq.trans (X_iconst f_143_109 kc_i_0) ?_
  refine Eq.trans (X_istore_n (L' := [.ref a0, mJ, .int (nI 0), mJ, mJ, mJ, mJ]) f_143_110 (Nat.le_of_ble_eq_true rfl) rfl) ?_
  refine Eq.trans (X_st f_143_111 rfl rfl) ?_
  refine Eq.trans (X_getR f_143_112 h0 rfl h1) ?_
  refine Eq.trans (X_astore_n (L' := [.ref a0, mJ, .int (nI 0), .ref (gR w a0 12), mJ, mJ, mJ]) f_143_115 (Nat.le_of_ble_eq_true rfl) rfl) ?_
  refine Eq.trans (X_st f_143_116 rfl rfl) ?_
  refine Eq.trans (X_st f_143_117 rfl (if_pos h2)) ?_
  refine Eq.trans (X_istore (L' := [.ref a0, mJ, .int (nI 0), .ref (gR w a0 12), .int (nI (mLn w (gR w a0 12))), mJ, mJ]) f_143_118 (Nat.le_of_ble_eq_true rfl) rfl) ?_
  refine Eq.trans (X_iconst f_143_120 kc_i_0) ?_
  refine Eq.trans (X_istore (L' := [.ref a0, mJ, .int (nI 0), .ref (gR w a0 12), .int (nI (mLn w (gR w a0 12))), .int (nI 0), mJ]) f_143_121 (Nat.le_of_ble_eq_true rfl) rfl) ?_
  exact mX_maskK lm_143_123 rfl
theorem b_143_123 {d : Nat} {a0 : Nat} {x2 : Int32} {a3 : Nat} {x4 : Int32} {x5 : Int32} {w : MW} : mX d 143 123 [.ref a0, mJ, .int x2, .ref a3, .int x4, .int x5, mJ] [] w = (if x4 ≤ x5 then mX d 143 176 [.ref a0, mJ, .int x2, mJ, mJ, mJ, mJ] [] w else mX d 143 130 [.ref a0, mJ, .int x2, .ref a3, .int x4, .int x5, mJ] [] w) := by
  refine Eq.trans (X_st f_143_123 rfl rfl) ?_
  refine Eq.trans (X_st f_143_125 rfl rfl) ?_
  refine Eq.trans (X_br f_143_127 rfl rfl) ?_
  exact mIte_eq (mX_maskK lm_143_176 rfl) (mX_maskK lm_143_130 rfl)
theorem b_143_130 {d : Nat} {a0 : Nat} {x2 : Int32} {a3 : Nat} {x4 : Int32} {x5 : Nat} {w : MW} (h0 : 52 ≤ mTg w a3 ∧ mTg w a3 < 55) (h1 : x5 < 2147483648) (h2 : x5 < mLn w a3) (h3 : mR w a3 x5 = some (gR w a3 x5)) (h4 : mTg w (gR w a3 x5) = 50) (h5 : 0 < mLn w (gR w a3 x5)) : mX d 143 130 [.ref a0, mJ, .int x2, .ref a3, .int x4, .int (nI x5), mJ] [] w = (if ¬ (mI w (gR w a3 x5) 0) = (nI 1) then mX d 143 167 [.ref a0, mJ, mJ, .ref a3, .int x4, .int (nI x5), mJ] [.int x2] w else mX d 143 145 [.ref a0, mJ, mJ, .ref a3, .int x4, .int (nI x5), .ref (gR w a3 x5)] [.int x2] w) := by
  refine Eq.trans (X_st f_143_130 rfl rfl) ?_
  refine Eq.trans (X_st f_143_131 rfl rfl) ?_
  refine Eq.trans (X_aald f_143_133 h0 (jnn h1) (jcl h1) h2 h3) ?_
  refine Eq.trans (X_astore (L' := [.ref a0, mJ, .int x2, .ref a3, .int x4, .int (nI x5), .ref (gR w a3 x5)]) f_143_134 (Nat.le_of_ble_eq_true rfl) rfl) ?_
  refine Eq.trans (X_st f_143_136 rfl rfl) ?_
  refine Eq.trans (X_st f_143_137 rfl rfl) ?_
  refine Eq.trans (X_iconst f_143_139 kc_i_0) ?_
  refine Eq.trans (X_iald f_143_140 h4 kn_0 kl_0 h5) ?_
  refine Eq.trans (X_iconst f_143_141 kc_i_1) ?_
  refine Eq.trans (X_br f_143_142 rfl rfl) ?_
  exact mIte_eq (mX_maskK lm_143_167 rfl) (mX_maskK lm_143_145 rfl)
theorem b_143_145 {d : Nat} {a0 : Nat} {a3 : Nat} {x4 : Int32} {x5 : Int32} {a6 : Nat} {y0 : Int32} {z0 : Nat} {w : MW} (h0 : mTg w a6 = 50) (h1 : 1 < mLn w a6) (h2 : mTg w a0 = 10) (h3 : mR w a0 15 = some (gR w a0 15)) (h4 : 52 ≤ mTg w (gR w a0 15) ∧ mTg w (gR w a0 15) < 55) (h5 : (mI w a0 1) = nI z0) (h6 : z0 < 2147483648) (h7 : z0 < mLn w (gR w a0 15)) (h8 : mR w (gR w a0 15) z0 = some (gR w (gR w a0 15) z0)) (h9 : mTg w (gR w (gR w a0 15) z0) = 50) (h10 : 0 < mLn w (gR w (gR w a0 15) z0)) : mX d 143 145 [.ref a0, mJ, mJ, .ref a3, .int x4, .int x5, .ref a6] [.int y0] w = (if (mI w a6 1) < (mI w (gR w (gR w a0 15) z0) 0) then mX d 143 167 [.ref a0, mJ, mJ, .ref a3, .int x4, .int x5, mJ] [.int y0] w else mX d 143 163 [.ref a0, mJ, mJ, .ref a3, .int x4, .int x5, mJ] [.int y0] w) := by
  refine Eq.trans (X_st f_143_145 rfl rfl) ?_
  refine Eq.trans (X_iconst f_143_147 kc_i_1) ?_
  refine Eq.trans (X_iald f_143_148 h0 kn_1 kl_1 h1) ?_
  refine Eq.trans (X_st f_143_149 rfl rfl) ?_
  refine Eq.trans (X_getR f_143_150 h2 rfl h3) ?_
  refine Eq.trans (X_st f_143_153 rfl rfl) ?_
  refine Eq.trans (X_getI f_143_154 h2 rfl) ?_
  refine Eq.trans (X_aald f_143_157 h4 (jnnE h5 h6) (jclE h5 h6) h7 h8) ?_
  refine Eq.trans (X_iconst f_143_158 kc_i_0) ?_
  refine Eq.trans (X_iald f_143_159 h9 kn_0 kl_0 h10) ?_
  refine Eq.trans (X_br f_143_160 rfl rfl) ?_
  exact mIte_eq (mX_maskK lm_143_167 rfl) (mX_maskK lm_143_163 rfl)
theorem b_143_163 {d : Nat} {a0 : Nat} {a3 : Nat} {x4 : Int32} {x5 : Int32} {y0 : Int32} {w : MW} : mX d 143 163 [.ref a0, mJ, mJ, .ref a3, .int x4, .int x5, mJ] [.int y0] w = mX d 143 168 [.ref a0, mJ, mJ, .ref a3, .int x4, .int x5, mJ] [.int (nI 1), .int y0] w := by
  refine Eq.trans (X_iconst f_143_163 kc_i_1) ?_
  refine Eq.trans (X_st f_143_164 rfl rfl) ?_
  exact mX_maskK lm_143_168 rfl
theorem b_143_167 {d : Nat} {a0 : Nat} {a3 : Nat} {x4 : Int32} {x5 : Int32} {y0 : Int32} {w : MW} : mX d 143 167 [.ref a0, mJ, mJ, .ref a3, .int x4, .int x5, mJ] [.int y0] w = mX d 143 168 [.ref a0, mJ, mJ, .ref a3, .int x4, .int x5, mJ] [.int (nI 0), .int y0] w := by
  refine Eq.trans (X_iconst f_143_167 kc_i_0) ?_
  exact mX_maskK lm_143_168 rfl
theorem b_143_168 {d : Nat} {a0 : Nat} {a3 : Nat} {x4 : Int32} {x5 : Int32} {y0 : Int32} {y1 : Int32} {w : MW} : mX d 143 168 [.ref a0, mJ, mJ, .ref a3, .int x4, .int x5, mJ] [.int y0, .int y1] w = mX d 143 123 [.ref a0, mJ, .int (y1 + y0), .ref a3, .int x4, .int (x5 + (nI 1)), mJ] [] w := by
  refine Eq.trans (X_st f_143_168 rfl rfl) ?_
  refine Eq.trans (X_istore_n (L' := [.ref a0, mJ, .int (y1 + y0), .ref a3, .int x4, .int x5, mJ]) f_143_169 (Nat.le_of_ble_eq_true rfl) rfl) ?_
  refine Eq.trans (X_iinc f_143_170 kc_i_1 rfl rfl) ?_
  refine Eq.trans (X_st f_143_173 rfl rfl) ?_
  exact mX_maskK lm_143_123 rfl
theorem b_143_176 {d : Nat} {a0 : Nat} {x2 : Int32} {w : MW} (h0 : mTg w a0 = 10) (h1 : mR w a0 12 = some (gR w a0 12)) (h2 : 50 ≤ mTg w (gR w a0 12) ∧ mTg w (gR w a0 12) < 55) : mX d 143 176 [.ref a0, mJ, .int x2, mJ, mJ, mJ, mJ] [] w = mX d 143 188 [.ref a0, mJ, .int x2, .ref (gR w a0 12), .int (nI (mLn w (gR w a0 12))), .int (nI 0), mJ] [] w := by
  refine Eq.trans (X_st f_143_176 rfl rfl) ?_
  refine Eq.trans (X_getR f_143_177 h0 rfl h1) ?_
  refine Eq.trans (X_astore_n (L' := [.ref a0, mJ, .int x2, .ref (gR w a0 12), mJ, mJ, mJ]) f_143_180 (Nat.le_of_ble_eq_true rfl) rfl) ?_
  refine Eq.trans (X_st f_143_181 rfl rfl) ?_
  refine Eq.trans (X_st f_143_182 rfl (if_pos h2)) ?_
  refine Eq.trans (X_istore (L' := [.ref a0, mJ, .int x2, .ref (gR w a0 12), .int (nI (mLn w (gR w a0 12))), mJ, mJ]) f_143_183 (Nat.le_of_ble_eq_true rfl) rfl) ?_
  refine Eq.trans (X_iconst f_143_185 kc_i_0) ?_
  refine Eq.trans (X_istore (L' := [.ref a0, mJ, .int x2, .ref (gR w a0 12), .int (nI (mLn w (gR w a0 12))), .int (nI 0), mJ]) f_143_186 (Nat.le_of_ble_eq_true rfl) rfl) ?_
  exact mX_maskK lm_143_188 rfl
theorem b_143_188 {d : Nat} {a0 : Nat} {x2 : Int32} {a3 : Nat} {x4 : Int32} {x5 : Int32} {w : MW} : mX d 143 188 [.ref a0, mJ, .int x2, .ref a3, .int x4, .int x5, mJ] [] w = (if x4 ≤ x5 then mX d 143 239 [.ref a0, mJ, mJ, mJ, mJ, mJ, mJ] [] w else mX d 143 195 [.ref a0, mJ, .int x2, .ref a3, .int x4, .int x5, mJ] [] w) := by
  refine Eq.trans (X_st f_143_188 rfl rfl) ?_
  refine Eq.trans (X_st f_143_190 rfl rfl) ?_
  refine Eq.trans (X_br f_143_192 rfl rfl) ?_
  exact mIte_eq (mX_maskK lm_143_239 rfl) (mX_maskK lm_143_195 rfl)
theorem b_143_195 {d : Nat} {a0 : Nat} {x2 : Int32} {a3 : Nat} {x4 : Int32} {x5 : Nat} {w : MW} (h0 : 52 ≤ mTg w a3 ∧ mTg w a3 < 55) (h1 : x5 < 2147483648) (h2 : x5 < mLn w a3) (h3 : mR w a3 x5 = some (gR w a3 x5)) : mX d 143 195 [.ref a0, mJ, .int x2, .ref a3, .int x4, .int (nI x5), mJ] [] w = (if x2 ≤ nI 0 then mX d 143 228 [.ref a0, mJ, .int x2, .ref a3, .int x4, .int (nI x5), .ref (gR w a3 x5)] [] w else mX d 143 205 [.ref a0, mJ, .int x2, .ref a3, .int x4, .int (nI x5), .ref (gR w a3 x5)] [] w) := by
  refine Eq.trans (X_st f_143_195 rfl rfl) ?_
  refine Eq.trans (X_st f_143_196 rfl rfl) ?_
  refine Eq.trans (X_aald f_143_198 h0 (jnn h1) (jcl h1) h2 h3) ?_
  refine Eq.trans (X_astore (L' := [.ref a0, mJ, .int x2, .ref a3, .int x4, .int (nI x5), .ref (gR w a3 x5)]) f_143_199 (Nat.le_of_ble_eq_true rfl) rfl) ?_
  refine Eq.trans (X_st f_143_201 rfl rfl) ?_
  refine Eq.trans (X_br f_143_202 rfl rfl) ?_
  exact mIte_eq (mX_maskK lm_143_228 rfl) (mX_maskK lm_143_205 rfl)
theorem b_143_205 {d : Nat} {a0 : Nat} {x2 : Int32} {a3 : Nat} {x4 : Int32} {x5 : Int32} {a6 : Nat} {z0 : Nat} {w : MW} (h0 : mTg w a6 = 50) (h1 : 1 < mLn w a6) (h2 : mTg w a0 = 10) (h3 : mR w a0 15 = some (gR w a0 15)) (h4 : 52 ≤ mTg w (gR w a0 15) ∧ mTg w (gR w a0 15) < 55) (h5 : (mI w a0 1) = nI z0) (h6 : z0 < 2147483648) (h7 : z0 < mLn w (gR w a0 15)) (h8 : mR w (gR w a0 15) z0 = some (gR w (gR w a0 15) z0)) (h9 : mTg w (gR w (gR w a0 15) z0) = 50) (h10 : 0 < mLn w (gR w (gR w a0 15) z0)) : mX d 143 205 [.ref a0, mJ, .int x2, .ref a3, .int x4, .int x5, .ref a6] [] w = (if (mI w (gR w (gR w a0 15) z0) 0) ≤ (mI w a6 1) then mX d 143 228 [.ref a0, mJ, .int x2, .ref a3, .int x4, .int x5, .ref a6] [] w else mX d 143 223 [.ref a0, mJ, .int x2, .ref a3, .int x4, .int x5, .ref a6] [] w) := by
  refine Eq.trans (X_st f_143_205 rfl rfl) ?_
  refine Eq.trans (X_iconst f_143_207 kc_i_1) ?_
  refine Eq.trans (X_iald f_143_208 h0 kn_1 kl_1 h1) ?_
  refine Eq.trans (X_st f_143_209 rfl rfl) ?_
  refine Eq.trans (X_getR f_143_210 h2 rfl h3) ?_
  refine Eq.trans (X_st f_143_213 rfl rfl) ?_
  refine Eq.trans (X_getI f_143_214 h2 rfl) ?_
  refine Eq.trans (X_aald f_143_217 h4 (jnnE h5 h6) (jclE h5 h6) h7 h8) ?_
  refine Eq.trans (X_iconst f_143_218 kc_i_0) ?_
  refine Eq.trans (X_iald f_143_219 h9 kn_0 kl_0 h10) ?_
  refine Eq.trans (X_br f_143_220 rfl rfl) ?_
  exact mIte_eq (mX_maskK lm_143_228 rfl) (mX_maskK lm_143_223 rfl)
theorem b_143_223 {d : Nat} {a0 : Nat} {x2 : Int32} {a3 : Nat} {x4 : Int32} {x5 : Int32} {a6 : Nat} {w : MW} (h0 : mTg w a6 = 50) (h1 : mE ≤ a6) (h2 : 0 < mLn w a6) : mX d 143 223 [.ref a0, mJ, .int x2, .ref a3, .int x4, .int x5, .ref a6] [] w = mX d 143 228 [.ref a0, mJ, .int x2, .ref a3, .int x4, .int x5, .ref a6] [] (wI w a6 0 (nI 0)) := by
  refine Eq.trans (X_st f_143_223 rfl rfl) ?_
  refine Eq.trans (X_iconst f_143_225 kc_i_0) ?_
  refine Eq.trans (X_iconst f_143_226 kc_i_0) ?_
  refine Eq.trans (X_iast f_143_227 h0 h1 kn_0 kl_0 h2) ?_
  exact mX_maskK lm_143_228 rfl
theorem b_143_228 {d : Nat} {a0 : Nat} {x2 : Int32} {a3 : Nat} {x4 : Int32} {x5 : Int32} {a6 : Nat} {w : MW} (h0 : mTg w a6 = 50) (h1 : mE ≤ a6) (h2 : 2 < mLn w a6) : mX d 143 228 [.ref a0, mJ, .int x2, .ref a3, .int x4, .int x5, .ref a6] [] w = mX d 143 233 [.ref a0, mJ, .int x2, .ref a3, .int x4, .int x5, mJ] [] (wI w a6 2 (nI 0)) := by
  refine Eq.trans (X_st f_143_228 rfl rfl) ?_
  refine Eq.trans (X_iconst f_143_230 kc_i_2) ?_
  refine Eq.trans (X_iconst f_143_231 kc_i_0) ?_
  refine Eq.trans (X_iast f_143_232 h0 h1 kn_2 kl_2 h2) ?_
  exact mX_maskK lm_143_233 rfl
theorem b_143_233 {d : Nat} {a0 : Nat} {x2 : Int32} {a3 : Nat} {x4 : Int32} {x5 : Int32} {w : MW} : mX d 143 233 [.ref a0, mJ, .int x2, .ref a3, .int x4, .int x5, mJ] [] w = mX d 143 188 [.ref a0, mJ, .int x2, .ref a3, .int x4, .int (x5 + (nI 1)), mJ] [] w := by
  refine Eq.trans (X_iinc f_143_233 kc_i_1 rfl rfl) ?_
  refine Eq.trans (X_st f_143_236 rfl rfl) ?_
  exact mX_maskK lm_143_188 rfl
theorem b_143_239 {d : Nat} {a0 : Nat} {w : MW} (h0 : mTg w a0 = 10) : mX (d + 1) 143 239 [.ref a0, mJ, mJ, mJ, mJ, mJ, mJ] [] w = mThen (mK d 132 [.ref a0] w) (fun v w9 => mX (d + 1) 143 243 [.ref a0, mJ, mJ, mJ, mJ, mJ, mJ] (v.toList ++ []) w9) := by
  refine Eq.trans (X_st f_143_239 rfl rfl) ?_
  refine Eq.trans (X_call f_143_240 (by decide) rfl rfl rfl rfl rfl rfl (Nat.le_of_ble_eq_true rfl) (Nat.le_of_ble_eq_true rfl) (decide_eq_true h0) (Nat.le_of_ble_eq_true rfl)) ?_
  exact mThen_eq fun v w9 => mX_maskK lm_143_243 rfl
theorem b_143_243 {d : Nat} {a0 : Nat} {y0 : Int32} {w : MW} : mX d 143 243 [.ref a0, mJ, mJ, mJ, mJ, mJ, mJ] [.int y0] w = (if y0 < (nI 2) then mX d 143 261 [.ref a0, mJ, mJ, mJ, mJ, mJ, mJ] [] w else mX d 143 247 [.ref a0, mJ, mJ, mJ, mJ, mJ, mJ] [] w) := by
  refine Eq.trans (X_iconst f_143_243 kc_i_2) ?_
  refine Eq.trans (X_br f_143_244 rfl rfl) ?_
  exact mIte_eq (mX_maskK lm_143_261 rfl) (mX_maskK lm_143_247 rfl)
theorem b_143_247 {d : Nat} {a0 : Nat} {w : MW} (h0 : mTg w a0 = 10) (h1 : mR w a0 15 = some (gR w a0 15)) (h2 : 50 ≤ mTg w (gR w a0 15) ∧ mTg w (gR w a0 15) < 55) : mX d 143 247 [.ref a0, mJ, mJ, mJ, mJ, mJ, mJ] [] w = (if ¬ (mI w a0 1) = ((nI (mLn w (gR w a0 15))) - (nI 1)) then mX d 143 265 [.ref a0, mJ, mJ, mJ, mJ, mJ, mJ] [] w else mX d 143 261 [.ref a0, mJ, mJ, mJ, mJ, mJ, mJ] [] w) := by
  refine Eq.trans (X_st f_143_247 rfl rfl) ?_
  refine Eq.trans (X_getI f_143_248 h0 rfl) ?_
  refine Eq.trans (X_st f_143_251 rfl rfl) ?_
  refine Eq.trans (X_getR f_143_252 h0 rfl h1) ?_
  refine Eq.trans (X_st f_143_255 rfl (if_pos h2)) ?_
  refine Eq.trans (X_iconst f_143_256 kc_i_1) ?_
  refine Eq.trans (X_st f_143_257 rfl rfl) ?_
  refine Eq.trans (X_br f_143_258 rfl rfl) ?_
  exact mIte_eq (mX_maskK lm_143_265 rfl) (mX_maskK lm_143_261 rfl)
theorem b_143_261 {d : Nat} {a0 : Nat} {w : MW} : mX d 143 261 [.ref a0, mJ, mJ, mJ, mJ, mJ, mJ] [] w = mX d 143 266 [.ref a0, mJ, mJ, mJ, mJ, mJ, mJ] [.int (nI 1)] w := by
  refine Eq.trans (X_iconst f_143_261 kc_i_1) ?_
  refine Eq.trans (X_st f_143_262 rfl rfl) ?_
  exact mX_maskK lm_143_266 rfl
theorem b_143_265 {d : Nat} {a0 : Nat} {w : MW} : mX d 143 265 [.ref a0, mJ, mJ, mJ, mJ, mJ, mJ] [] w = mX d 143 266 [.ref a0, mJ, mJ, mJ, mJ, mJ, mJ] [.int (nI 0)] w := by
  refine Eq.trans (X_iconst f_143_265 kc_i_0) ?_
  exact mX_maskK lm_143_266 rfl
theorem b_143_266 {d : Nat} {a0 : Nat} {y0 : Int32} {w : MW} (h0 : mTg w a0 = 10) (h1 : mE ≤ a0) : mX d 143 266 [.ref a0, mJ, mJ, mJ, mJ, mJ, mJ] [.int y0] w = mX d 143 277 [.ref a0, .int y0, mJ, mJ, mJ, mJ, mJ] [] (wI w a0 1 ((mI w a0 1) + (nI 1))) := by
  refine Eq.trans (X_istore_n (L' := [.ref a0, .int y0, mJ, mJ, mJ, mJ, mJ]) f_143_266 (Nat.le_of_ble_eq_true rfl) rfl) ?_
  refine Eq.trans (X_st f_143_267 rfl rfl) ?_
  refine Eq.trans (X_dup f_143_268 rfl) ?_
  refine Eq.trans (X_getI f_143_269 h0 rfl) ?_
  refine Eq.trans (X_iconst f_143_272 kc_i_1) ?_
  refine Eq.trans (X_st f_143_273 rfl rfl) ?_
  refine Eq.trans (X_putI f_143_274 h0 h1 rfl rfl) ?_
  exact mX_maskK lm_143_277 rfl
theorem b_143_277 {d : Nat} {a0 : Nat} {x1 : Int32} {w : MW} (h0 : mTg w a0 = 10) (h1 : mE ≤ a0) : mX d 143 277 [.ref a0, .int x1, mJ, mJ, mJ, mJ, mJ] [] w = mX d 143 282 [.ref a0, .int x1, mJ, mJ, mJ, mJ, mJ] [] (wI w a0 2 (nI 0)) := by
  refine Eq.trans (X_st f_143_277 rfl rfl) ?_
  refine Eq.trans (X_iconst f_143_278 kc_i_0) ?_
  refine Eq.trans (X_putI f_143_279 h0 h1 rfl rfl) ?_
  exact mX_maskK lm_143_282 rfl
theorem b_143_282 {d : Nat} {a0 : Nat} {x1 : Int32} {w : MW} (h0 : mTg w a0 = 10) (h1 : mE ≤ a0) : mX d 143 282 [.ref a0, .int x1, mJ, mJ, mJ, mJ, mJ] [] w = mX d 143 287 [.ref a0, .int x1, mJ, mJ, mJ, mJ, mJ] [] (wI w a0 3 (nI 0)) := by
  refine Eq.trans (X_st f_143_282 rfl rfl) ?_
  refine Eq.trans (X_iconst f_143_283 kc_i_0) ?_
  refine Eq.trans (X_putI f_143_284 h0 h1 rfl rfl) ?_
  exact mX_maskK lm_143_287 rfl
theorem b_143_287 {d : Nat} {a0 : Nat} {x1 : Int32} {w : MW} : mX d 143 287 [.ref a0, .int x1, mJ, mJ, mJ, mJ, mJ] [] w = (if x1 = nI 0 then mX d 143 296 [.ref a0, mJ, mJ, mJ, mJ, mJ, mJ] [] w else mX d 143 291 [.ref a0, mJ, mJ, mJ, mJ, mJ, mJ] [] w) := by
  refine Eq.trans (X_st f_143_287 rfl rfl) ?_
  refine Eq.trans (X_br f_143_288 rfl rfl) ?_
  exact mIte_eq (mX_maskK lm_143_296 rfl) (mX_maskK lm_143_291 rfl)
theorem b_143_291 {d : Nat} {a0 : Nat} {w : MW} (h0 : mTg w a0 = 10) (h1 : mE ≤ a0) : mX d 143 291 [.ref a0, mJ, mJ, mJ, mJ, mJ, mJ] [] w = mX d 143 296 [.ref a0, mJ, mJ, mJ, mJ, mJ, mJ] [] (wI w a0 1 (-1 : Int32)) := by
  refine Eq.trans (X_st f_143_291 rfl rfl) ?_
  refine Eq.trans (X_iconst f_143_292 kc_i_m1) ?_
  refine Eq.trans (X_putI f_143_293 h0 h1 rfl rfl) ?_
  exact mX_maskK lm_143_296 rfl
theorem b_143_296 {d : Nat} {a0 : Nat} {w : MW} (h0 : mTg w a0 = 10) (h1 : mE ≤ a0) : mX d 143 296 [.ref a0, mJ, mJ, mJ, mJ, mJ, mJ] [] w = mX d 143 301 [.ref a0, mJ, mJ, mJ, mJ, mJ, mJ] [] (wI w a0 4 (nI 0)) := by
  refine Eq.trans (X_st f_143_296 rfl rfl) ?_
  refine Eq.trans (X_iconst f_143_297 kc_i_0) ?_
  refine Eq.trans (X_putI f_143_298 h0 h1 rfl rfl) ?_
  exact mX_maskK lm_143_301 rfl
theorem b_143_301 {d : Nat} {a0 : Nat} {w : MW} (h0 : mTg w a0 = 10) (h1 : mR w a0 12 = some (gR w a0 12)) (h2 : 50 ≤ mTg w (gR w a0 12) ∧ mTg w (gR w a0 12) < 55) : mX d 143 301 [.ref a0, mJ, mJ, mJ, mJ, mJ, mJ] [] w = (if (nI (mLn w (gR w a0 12))) ≤ ((mI w a0 4) + (nI 1)) then mX d 143 342 [mJ, mJ, mJ, mJ, mJ, mJ, mJ] [] w else mX d 143 315 [.ref a0, mJ, mJ, mJ, mJ, mJ, mJ] [] w) := by
  refine Eq.trans (X_st f_143_301 rfl rfl) ?_
  refine Eq.trans (X_getI f_143_302 h0 rfl) ?_
  refine Eq.trans (X_iconst f_143_305 kc_i_1) ?_
  refine Eq.trans (X_st f_143_306 rfl rfl) ?_
  refine Eq.trans (X_st f_143_307 rfl rfl) ?_
  refine Eq.trans (X_getR f_143_308 h0 rfl h1) ?_
  refine Eq.trans (X_st f_143_311 rfl (if_pos h2)) ?_
  refine Eq.trans (X_br f_143_312 rfl rfl) ?_
  exact mIte_eq (mX_maskK lm_143_342 rfl) (mX_maskK lm_143_315 rfl)
theorem b_143_315 {d : Nat} {a0 : Nat} {z0 : Nat} {w : MW} (h0 : mTg w a0 = 10) (h1 : mR w a0 12 = some (gR w a0 12)) (h2 : 52 ≤ mTg w (gR w a0 12) ∧ mTg w (gR w a0 12) < 55) (h3 : (mI w a0 4) = nI z0) (h4 : z0 < 2147483648) (h5 : z0 < mLn w (gR w a0 12)) (h6 : mR w (gR w a0 12) z0 = some (gR w (gR w a0 12) z0)) (h7 : mTg w (gR w (gR w a0 12) z0) = 50) (h8 : 0 < mLn w (gR w (gR w a0 12) z0)) : mX d 143 315 [.ref a0, mJ, mJ, mJ, mJ, mJ, mJ] [] w = (if ¬ (mI w (gR w (gR w a0 12) z0) 0) = nI 0 then mX d 143 342 [mJ, mJ, mJ, mJ, mJ, mJ, mJ] [] w else mX d 143 329 [.ref a0, mJ, mJ, mJ, mJ, mJ, mJ] [] w) := by
  refine Eq.trans (X_st f_143_315 rfl rfl) ?_
  refine Eq.trans (X_getR f_143_316 h0 rfl h1) ?_
  refine Eq.trans (X_st f_143_319 rfl rfl) ?_
  refine Eq.trans (X_getI f_143_320 h0 rfl) ?_
  refine Eq.trans (X_aald f_143_323 h2 (jnnE h3 h4) (jclE h3 h4) h5 h6) ?_
  refine Eq.trans (X_iconst f_143_324 kc_i_0) ?_
  refine Eq.trans (X_iald f_143_325 h7 kn_0 kl_0 h8) ?_
  refine Eq.trans (X_br f_143_326 rfl rfl) ?_
  exact mIte_eq (mX_maskK lm_143_342 rfl) (mX_maskK lm_143_329 rfl)
theorem b_143_329 {d : Nat} {a0 : Nat} {w : MW} (h0 : mTg w a0 = 10) (h1 : mE ≤ a0) : mX d 143 329 [.ref a0, mJ, mJ, mJ, mJ, mJ, mJ] [] w = mX d 143 339 [.ref a0, mJ, mJ, mJ, mJ, mJ, mJ] [] (wI w a0 4 ((mI w a0 4) + (nI 1))) := by
  refine Eq.trans (X_st f_143_329 rfl rfl) ?_
  refine Eq.trans (X_dup f_143_330 rfl) ?_
  refine Eq.trans (X_getI f_143_331 h0 rfl) ?_
  refine Eq.trans (X_iconst f_143_334 kc_i_1) ?_
  refine Eq.trans (X_st f_143_335 rfl rfl) ?_
  refine Eq.trans (X_putI f_143_336 h0 h1 rfl rfl) ?_
  exact mX_maskK lm_143_339 rfl
theorem b_143_339 {d : Nat} {a0 : Nat} {w : MW} : mX d 143 339 [.ref a0, mJ, mJ, mJ, mJ, mJ, mJ] [] w = mX d 143 301 [.ref a0, mJ, mJ, mJ, mJ, mJ, mJ] [] w := by
  refine Eq.trans (X_st f_143_339 rfl rfl) ?_
  exact mX_maskK lm_143_301 rfl
theorem b_143_342 {d : Nat} {w : MW} : mX d 143 342 [mJ, mJ, mJ, mJ, mJ, mJ, mJ] [] w = some (.inl none, w) := by
  exact X_ret f_143_342 rfl rfl
/-! BeeTurnpikeLaw$Sim turn ()V -/
theorem f_144_0 : mFetch 144 0 = some (.aload_n 0, 1, []) := by decide +kernel
theorem f_144_1 : mFetch 144 1 = some (.invokevirtual 131, 3, [139, 1, 2, 10, 830, 832, 26]) := by decide +kernel
theorem f_144_4 : mFetch 144 4 = some (.ifCond .eq 10, 3, [14]) := by decide +kernel
theorem f_144_7 : mFetch 144 7 = some (.aload_n 0, 1, []) := by decide +kernel
theorem f_144_8 : mFetch 144 8 = some (.invokevirtual 134, 3, [138, 1, 2, 10, 876, 877, 878]) := by decide +kernel
theorem f_144_11 : mFetch 144 11 = some (.goto 11, 3, [22]) := by decide +kernel
theorem f_144_14 : mFetch 144 14 = some (.aload_n 0, 1, []) := by decide +kernel
theorem f_144_15 : mFetch 144 15 = some (.invokevirtual 137, 3, [141, 1, 2, 10, 888, 890, 29]) := by decide +kernel
theorem f_144_18 : mFetch 144 18 = some (.aload_n 0, 1, []) := by decide +kernel
theorem f_144_19 : mFetch 144 19 = some (.invokevirtual 108, 3, [142, 1, 2, 10, 880, 882, 27]) := by decide +kernel
theorem f_144_22 : mFetch 144 22 = some (.return_, 1, []) := by decide +kernel
theorem b_144_0 {d : Nat} {a0 : Nat} {w : MW} (h0 : mTg w a0 = 10) : mX (d + 1) 144 0 [.ref a0] [] w = mThen (mK d 139 [.ref a0] w) (fun v w9 => mX (d + 1) 144 4 [.ref a0] (v.toList ++ []) w9) := by
  refine Eq.trans (X_st f_144_0 rfl rfl) ?_
  refine Eq.trans (X_call f_144_1 (by decide) rfl rfl rfl rfl rfl rfl (Nat.le_of_ble_eq_true rfl) (Nat.le_of_ble_eq_true rfl) (decide_eq_true h0) (Nat.le_of_ble_eq_true rfl)) ?_
  exact mThen_eq fun v w9 => mX_mask rfl
theorem e_144 {d : Nat} {a0 : Nat} {w : MW} : mK d 144 [.ref a0] w = mX d 144 0 [.ref a0] [] w := rfl
theorem b_144_4 {d : Nat} {a0 : Nat} {y0 : Int32} {w : MW} : mX d 144 4 [.ref a0] [.int y0] w = (if y0 = nI 0 then mX d 144 14 [.ref a0] [] w else mX d 144 7 [.ref a0] [] w) := by
  refine Eq.trans (X_br f_144_4 rfl rfl) ?_
  exact mIte_eq (mX_mask rfl) (mX_mask rfl)
theorem b_144_7 {d : Nat} {a0 : Nat} {w : MW} (h0 : mTg w a0 = 10) : mX (d + 1) 144 7 [.ref a0] [] w = mThen (mK d 138 [.ref a0] w) (fun v w9 => mX (d + 1) 144 11 [mJ] (v.toList ++ []) w9) := by
  refine Eq.trans (X_st f_144_7 rfl rfl) ?_
  refine Eq.trans (X_call f_144_8 (by decide) rfl rfl rfl rfl rfl rfl (Nat.le_of_ble_eq_true rfl) (Nat.le_of_ble_eq_true rfl) (decide_eq_true h0) (Nat.le_of_ble_eq_true rfl)) ?_
  exact mThen_eq fun v w9 => mX_mask rfl
theorem b_144_11 {d : Nat} {w : MW} : mX d 144 11 [mJ] [] w = mX d 144 22 [mJ] [] w := by
  refine Eq.trans (X_st f_144_11 rfl rfl) ?_
  exact mX_mask rfl
theorem b_144_14 {d : Nat} {a0 : Nat} {w : MW} (h0 : mTg w a0 = 10) : mX (d + 1) 144 14 [.ref a0] [] w = mThen (mK d 141 [.ref a0] w) (fun v w9 => mX (d + 1) 144 18 [.ref a0] (v.toList ++ []) w9) := by
  refine Eq.trans (X_st f_144_14 rfl rfl) ?_
  refine Eq.trans (X_call f_144_15 (by decide) rfl rfl rfl rfl rfl rfl (Nat.le_of_ble_eq_true rfl) (Nat.le_of_ble_eq_true rfl) (decide_eq_true h0) (Nat.le_of_ble_eq_true rfl)) ?_
  exact mThen_eq fun v w9 => mX_mask rfl
theorem b_144_18 {d : Nat} {a0 : Nat} {w : MW} (h0 : mTg w a0 = 10) : mX (d + 1) 144 18 [.ref a0] [] w = mThen (mK d 142 [.ref a0] w) (fun v w9 => mX (d + 1) 144 22 [mJ] (v.toList ++ []) w9) := by
  refine Eq.trans (X_st f_144_18 rfl rfl) ?_
  refine Eq.trans (X_call f_144_19 (by decide) rfl rfl rfl rfl rfl rfl (Nat.le_of_ble_eq_true rfl) (Nat.le_of_ble_eq_true rfl) (decide_eq_true h0) (Nat.le_of_ble_eq_true rfl)) ?_
  exact mThen_eq fun v w9 => mX_mask rfl
theorem b_144_22 {d : Nat} {w : MW} : mX d 144 22 [mJ] [] w = some (.inl none, w) := by
  exact X_ret f_144_22 rfl rfl
/-! BeeTurnpikeLaw$Sim go (I)I -/
theorem f_145_0 : mFetch 145 0 = some (.iconst 0, 1, []) := by decide +kernel
theorem f_145_1 : mFetch 145 1 = some (.istore_n 2, 1, []) := by decide +kernel
theorem f_145_2 : mFetch 145 2 = some (.iload_n 2, 1, []) := by decide +kernel
theorem f_145_3 : mFetch 145 3 = some (.iload_n 1, 1, []) := by decide +kernel
theorem f_145_4 : mFetch 145 4 = some (.if_icmp .ge 20, 3, [24]) := by decide +kernel
theorem f_145_7 : mFetch 145 7 = some (.aload_n 0, 1, []) := by decide +kernel
theorem f_145_8 : mFetch 145 8 = some (.getfield 7, 3, [10, 1, 0, 1329]) := by decide +kernel
theorem f_145_11 : mFetch 145 11 = some (.ifCond .lt 13, 3, [24]) := by decide +kernel
theorem f_145_14 : mFetch 145 14 = some (.aload_n 0, 1, []) := by decide +kernel
theorem f_145_15 : mFetch 145 15 = some (.invokevirtual 140, 3, [144, 1, 2, 10, 826, 827, 828]) := by decide +kernel
theorem f_145_18 : mFetch 145 18 = some (.iinc 2 1, 3, []) := by decide +kernel
theorem f_145_21 : mFetch 145 21 = some (.goto (-19), 3, [2]) := by decide +kernel
theorem f_145_24 : mFetch 145 24 = some (.iload_n 2, 1, []) := by decide +kernel
theorem f_145_25 : mFetch 145 25 = some (.ireturn, 1, [0]) := by decide +kernel
theorem b_145_0 {d : Nat} {a0 : Nat} {x1 : Int32} {w : MW} : mX d 145 0 [.ref a0, .int x1, mJ] [] w = mX d 145 2 [.ref a0, .int x1, .int (nI 0)] [] w := by
  refine Eq.trans (X_iconst f_145_0 kc_i_0) ?_
  refine Eq.trans (X_istore_n (L' := [.ref a0, .int x1, .int (nI 0)]) f_145_1 (Nat.le_of_ble_eq_true rfl) rfl) ?_
  exact mX_mask rfl
theorem e_145 {d : Nat} {a0 : Nat} {x1 : Int32} {w : MW} : mK d 145 [.ref a0, .int x1] w = mX d 145 0 [.ref a0, .int x1, mJ] [] w := rfl
theorem b_145_2 {d : Nat} {a0 : Nat} {x1 : Int32} {x2 : Int32} {w : MW} : mX d 145 2 [.ref a0, .int x1, .int x2] [] w = (if x1 ≤ x2 then mX d 145 24 [mJ, mJ, .int x2] [] w else mX d 145 7 [.ref a0, .int x1, .int x2] [] w) := by
  refine Eq.trans (X_st f_145_2 rfl rfl) ?_
  refine Eq.trans (X_st f_145_3 rfl rfl) ?_
  refine Eq.trans (X_br f_145_4 rfl rfl) ?_
  exact mIte_eq (mX_mask rfl) (mX_mask rfl)
theorem b_145_7 {d : Nat} {a0 : Nat} {x1 : Int32} {x2 : Int32} {w : MW} (h0 : mTg w a0 = 10) : mX d 145 7 [.ref a0, .int x1, .int x2] [] w = (if (mI w a0 1) < nI 0 then mX d 145 24 [mJ, mJ, .int x2] [] w else mX d 145 14 [.ref a0, .int x1, .int x2] [] w) := by
  refine Eq.trans (X_st f_145_7 rfl rfl) ?_
  refine Eq.trans (X_getI f_145_8 h0 rfl) ?_
  refine Eq.trans (X_br f_145_11 rfl rfl) ?_
  exact mIte_eq (mX_mask rfl) (mX_mask rfl)
theorem b_145_14 {d : Nat} {a0 : Nat} {x1 : Int32} {x2 : Int32} {w : MW} (h0 : mTg w a0 = 10) : mX (d + 1) 145 14 [.ref a0, .int x1, .int x2] [] w = mThen (mK d 144 [.ref a0] w) (fun v w9 => mX (d + 1) 145 18 [.ref a0, .int x1, .int x2] (v.toList ++ []) w9) := by
  refine Eq.trans (X_st f_145_14 rfl rfl) ?_
  refine Eq.trans (X_call f_145_15 (by decide) rfl rfl rfl rfl rfl rfl (Nat.le_of_ble_eq_true rfl) (Nat.le_of_ble_eq_true rfl) (decide_eq_true h0) (Nat.le_of_ble_eq_true rfl)) ?_
  exact mThen_eq fun v w9 => mX_mask rfl
theorem b_145_18 {d : Nat} {a0 : Nat} {x1 : Int32} {x2 : Int32} {w : MW} : mX d 145 18 [.ref a0, .int x1, .int x2] [] w = mX d 145 2 [.ref a0, .int x1, .int (x2 + (nI 1))] [] w := by
  refine Eq.trans (X_iinc f_145_18 kc_i_1 rfl rfl) ?_
  refine Eq.trans (X_st f_145_21 rfl rfl) ?_
  exact mX_mask rfl
theorem b_145_24 {d : Nat} {x2 : Int32} {w : MW} : mX d 145 24 [mJ, mJ, .int x2] [] w = some (.inl (some (.int x2)), w) := by
  refine Eq.trans (X_st f_145_24 rfl rfl) ?_
  exact X_ireturn f_145_25 rfl
/-! BeeTurnpikeLaw$Sim counted (II)I -/
theorem f_146_0 : mFetch 146 0 = some (.bipush 18, 2, []) := by decide +kernel
theorem f_146_2 : mFetch 146 2 = some (.newarray .int, 2, [50]) := by decide +kernel
theorem f_146_4 : mFetch 146 4 = some (.dup, 1, []) := by decide +kernel
theorem f_146_5 : mFetch 146 5 = some (.iconst 0, 1, []) := by decide +kernel
theorem f_146_6 : mFetch 146 6 = some (.aload_n 0, 1, []) := by decide +kernel
theorem f_146_7 : mFetch 146 7 = some (.getfield 56, 3, [10, 0, 0, 1328]) := by decide +kernel
theorem f_146_10 : mFetch 146 10 = some (.iastore, 1, []) := by decide +kernel
theorem f_146_11 : mFetch 146 11 = some (.dup, 1, []) := by decide +kernel
theorem f_146_12 : mFetch 146 12 = some (.iconst 1, 1, []) := by decide +kernel
theorem f_146_13 : mFetch 146 13 = some (.iload_n 2, 1, []) := by decide +kernel
theorem f_146_14 : mFetch 146 14 = some (.iastore, 1, []) := by decide +kernel
theorem f_146_15 : mFetch 146 15 = some (.dup, 1, []) := by decide +kernel
theorem f_146_16 : mFetch 146 16 = some (.iconst 2, 1, []) := by decide +kernel
theorem f_146_17 : mFetch 146 17 = some (.aload_n 0, 1, []) := by decide +kernel
theorem f_146_18 : mFetch 146 18 = some (.getfield 21, 3, [10, 9, 0, 1340]) := by decide +kernel
theorem f_146_21 : mFetch 146 21 = some (.arraylength, 1, []) := by decide +kernel
theorem f_146_22 : mFetch 146 22 = some (.iastore, 1, []) := by decide +kernel
theorem f_146_23 : mFetch 146 23 = some (.dup, 1, []) := by decide +kernel
theorem f_146_24 : mFetch 146 24 = some (.iconst 3, 1, []) := by decide +kernel
theorem f_146_25 : mFetch 146 25 = some (.aload_n 0, 1, []) := by decide +kernel
theorem f_146_26 : mFetch 146 26 = some (.getfield 25, 3, [10, 10, 0, 1342]) := by decide +kernel
theorem f_146_29 : mFetch 146 29 = some (.arraylength, 1, []) := by decide +kernel
theorem f_146_30 : mFetch 146 30 = some (.iastore, 1, []) := by decide +kernel
theorem f_146_31 : mFetch 146 31 = some (.dup, 1, []) := by decide +kernel
theorem f_146_32 : mFetch 146 32 = some (.iconst 4, 1, []) := by decide +kernel
theorem f_146_33 : mFetch 146 33 = some (.aload_n 0, 1, []) := by decide +kernel
theorem f_146_34 : mFetch 146 34 = some (.getfield 31, 3, [10, 12, 0, 1346]) := by decide +kernel
theorem f_146_37 : mFetch 146 37 = some (.arraylength, 1, []) := by decide +kernel
theorem f_146_38 : mFetch 146 38 = some (.iastore, 1, []) := by decide +kernel
theorem f_146_39 : mFetch 146 39 = some (.dup, 1, []) := by decide +kernel
theorem f_146_40 : mFetch 146 40 = some (.iconst 5, 1, []) := by decide +kernel
theorem f_146_41 : mFetch 146 41 = some (.aload_n 0, 1, []) := by decide +kernel
theorem f_146_42 : mFetch 146 42 = some (.getfield 40, 3, [10, 15, 0, 1352]) := by decide +kernel
theorem f_146_45 : mFetch 146 45 = some (.arraylength, 1, []) := by decide +kernel
theorem f_146_46 : mFetch 146 46 = some (.iastore, 1, []) := by decide +kernel
theorem f_146_47 : mFetch 146 47 = some (.dup, 1, []) := by decide +kernel
theorem f_146_48 : mFetch 146 48 = some (.bipush 6, 2, []) := by decide +kernel
theorem f_146_50 : mFetch 146 50 = some (.aload_n 0, 1, []) := by decide +kernel
theorem f_146_51 : mFetch 146 51 = some (.getfield 46, 3, [10, 17, 0, 1356]) := by decide +kernel
theorem f_146_54 : mFetch 146 54 = some (.arraylength, 1, []) := by decide +kernel
theorem f_146_55 : mFetch 146 55 = some (.iastore, 1, []) := by decide +kernel
theorem f_146_56 : mFetch 146 56 = some (.dup, 1, []) := by decide +kernel
theorem f_146_57 : mFetch 146 57 = some (.bipush 7, 2, []) := by decide +kernel
theorem f_146_59 : mFetch 146 59 = some (.aload_n 0, 1, []) := by decide +kernel
theorem f_146_60 : mFetch 146 60 = some (.getfield 7, 3, [10, 1, 0, 1329]) := by decide +kernel
theorem f_146_63 : mFetch 146 63 = some (.iastore, 1, []) := by decide +kernel
theorem f_146_64 : mFetch 146 64 = some (.dup, 1, []) := by decide +kernel
theorem f_146_65 : mFetch 146 65 = some (.bipush 8, 2, []) := by decide +kernel
theorem f_146_67 : mFetch 146 67 = some (.aload_n 0, 1, []) := by decide +kernel
theorem f_146_68 : mFetch 146 68 = some (.getfield 7, 3, [10, 1, 0, 1329]) := by decide +kernel
theorem f_146_71 : mFetch 146 71 = some (.ifCond .ge 7, 3, [78]) := by decide +kernel
theorem f_146_74 : mFetch 146 74 = some (.iconst (-1), 1, []) := by decide +kernel
theorem f_146_75 : mFetch 146 75 = some (.goto 7, 3, [82]) := by decide +kernel
theorem f_146_78 : mFetch 146 78 = some (.aload_n 0, 1, []) := by decide +kernel
theorem f_146_79 : mFetch 146 79 = some (.getfield 65, 3, [10, 4, 0, 1334]) := by decide +kernel
theorem f_146_82 : mFetch 146 82 = some (.iastore, 1, []) := by decide +kernel
theorem f_146_83 : mFetch 146 83 = some (.dup, 1, []) := by decide +kernel
theorem f_146_84 : mFetch 146 84 = some (.bipush 9, 2, []) := by decide +kernel
theorem f_146_86 : mFetch 146 86 = some (.aload_n 0, 1, []) := by decide +kernel
theorem f_146_87 : mFetch 146 87 = some (.invokevirtual 83, 3, [129, 1, 2, 10, 843, 844, 845]) := by decide +kernel
theorem f_146_90 : mFetch 146 90 = some (.iastore, 1, []) := by decide +kernel
theorem f_146_91 : mFetch 146 91 = some (.dup, 1, []) := by decide +kernel
theorem f_146_92 : mFetch 146 92 = some (.bipush 10, 2, []) := by decide +kernel
theorem f_146_94 : mFetch 146 94 = some (.aload_n 0, 1, []) := by decide +kernel
theorem f_146_95 : mFetch 146 95 = some (.invokevirtual 105, 3, [132, 1, 2, 10, 859, 860, 861]) := by decide +kernel
theorem f_146_98 : mFetch 146 98 = some (.iastore, 1, []) := by decide +kernel
theorem f_146_99 : mFetch 146 99 = some (.dup, 1, []) := by decide +kernel
theorem f_146_100 : mFetch 146 100 = some (.bipush 11, 2, []) := by decide +kernel
theorem f_146_102 : mFetch 146 102 = some (.aload_n 0, 1, []) := by decide +kernel
theorem f_146_103 : mFetch 146 103 = some (.getfield 13, 3, [10, 7, 0, 1337]) := by decide +kernel
theorem f_146_106 : mFetch 146 106 = some (.iconst 0, 1, []) := by decide +kernel
theorem f_146_107 : mFetch 146 107 = some (.iaload, 1, []) := by decide +kernel
theorem f_146_108 : mFetch 146 108 = some (.iastore, 1, []) := by decide +kernel
theorem f_146_109 : mFetch 146 109 = some (.dup, 1, []) := by decide +kernel
theorem f_146_110 : mFetch 146 110 = some (.bipush 12, 2, []) := by decide +kernel
theorem f_146_112 : mFetch 146 112 = some (.aload_n 0, 1, []) := by decide +kernel
theorem f_146_113 : mFetch 146 113 = some (.getfield 13, 3, [10, 7, 0, 1337]) := by decide +kernel
theorem f_146_116 : mFetch 146 116 = some (.iconst 1, 1, []) := by decide +kernel
theorem f_146_117 : mFetch 146 117 = some (.iaload, 1, []) := by decide +kernel
theorem f_146_118 : mFetch 146 118 = some (.iastore, 1, []) := by decide +kernel
theorem f_146_119 : mFetch 146 119 = some (.dup, 1, []) := by decide +kernel
theorem f_146_120 : mFetch 146 120 = some (.bipush 13, 2, []) := by decide +kernel
theorem f_146_122 : mFetch 146 122 = some (.aload_n 0, 1, []) := by decide +kernel
theorem f_146_123 : mFetch 146 123 = some (.getfield 13, 3, [10, 7, 0, 1337]) := by decide +kernel
theorem f_146_126 : mFetch 146 126 = some (.iconst 2, 1, []) := by decide +kernel
theorem f_146_127 : mFetch 146 127 = some (.iaload, 1, []) := by decide +kernel
theorem f_146_128 : mFetch 146 128 = some (.iastore, 1, []) := by decide +kernel
theorem f_146_129 : mFetch 146 129 = some (.dup, 1, []) := by decide +kernel
theorem f_146_130 : mFetch 146 130 = some (.bipush 14, 2, []) := by decide +kernel
theorem f_146_132 : mFetch 146 132 = some (.aload_n 0, 1, []) := by decide +kernel
theorem f_146_133 : mFetch 146 133 = some (.getfield 13, 3, [10, 7, 0, 1337]) := by decide +kernel
theorem f_146_136 : mFetch 146 136 = some (.iconst 3, 1, []) := by decide +kernel
theorem f_146_137 : mFetch 146 137 = some (.iaload, 1, []) := by decide +kernel
theorem f_146_138 : mFetch 146 138 = some (.iastore, 1, []) := by decide +kernel
theorem f_146_139 : mFetch 146 139 = some (.dup, 1, []) := by decide +kernel
theorem f_146_140 : mFetch 146 140 = some (.bipush 15, 2, []) := by decide +kernel
theorem f_146_142 : mFetch 146 142 = some (.aload_n 0, 1, []) := by decide +kernel
theorem f_146_143 : mFetch 146 143 = some (.getfield 13, 3, [10, 7, 0, 1337]) := by decide +kernel
theorem f_146_146 : mFetch 146 146 = some (.iconst 4, 1, []) := by decide +kernel
theorem f_146_147 : mFetch 146 147 = some (.iaload, 1, []) := by decide +kernel
theorem f_146_148 : mFetch 146 148 = some (.iastore, 1, []) := by decide +kernel
theorem f_146_149 : mFetch 146 149 = some (.dup, 1, []) := by decide +kernel
theorem f_146_150 : mFetch 146 150 = some (.bipush 16, 2, []) := by decide +kernel
theorem f_146_152 : mFetch 146 152 = some (.aload_n 0, 1, []) := by decide +kernel
theorem f_146_153 : mFetch 146 153 = some (.getfield 13, 3, [10, 7, 0, 1337]) := by decide +kernel
theorem f_146_156 : mFetch 146 156 = some (.iconst 5, 1, []) := by decide +kernel
theorem f_146_157 : mFetch 146 157 = some (.iaload, 1, []) := by decide +kernel
theorem f_146_158 : mFetch 146 158 = some (.iastore, 1, []) := by decide +kernel
theorem f_146_159 : mFetch 146 159 = some (.dup, 1, []) := by decide +kernel
theorem f_146_160 : mFetch 146 160 = some (.bipush 17, 2, []) := by decide +kernel
theorem f_146_162 : mFetch 146 162 = some (.iconst 0, 1, []) := by decide +kernel
theorem f_146_163 : mFetch 146 163 = some (.iastore, 1, []) := by decide +kernel
theorem f_146_164 : mFetch 146 164 = some (.astore_n 3, 1, []) := by decide +kernel
theorem f_146_165 : mFetch 146 165 = some (.aload_n 3, 1, []) := by decide +kernel
theorem f_146_166 : mFetch 146 166 = some (.iload_n 1, 1, []) := by decide +kernel
theorem f_146_167 : mFetch 146 167 = some (.iaload, 1, []) := by decide +kernel
theorem f_146_168 : mFetch 146 168 = some (.ireturn, 1, [0]) := by decide +kernel
theorem b_146_0 {d : Nat} {a0 : Nat} {x1 : Int32} {x2 : Int32} {w : MW} : mX d 146 0 [.ref a0, .int x1, .int x2, mJ] [] w = mX d 146 4 [.ref a0, .int x1, .int x2, mJ] [.ref (mSz w)] (wN w 50 18 18) := by
  refine Eq.trans (X_bipush f_146_0 kc_b_18) ?_
  refine Eq.trans (X_newa f_146_2 kn_18 kl_18 (Nat.le_of_ble_eq_true rfl)) ?_
  exact mX_mask rfl
theorem e_146 {d : Nat} {a0 : Nat} {x1 : Int32} {x2 : Int32} {w : MW} : mK d 146 [.ref a0, .int x1, .int x2] w = mX d 146 0 [.ref a0, .int x1, .int x2, mJ] [] w := rfl
theorem b_146_4 {d : Nat} {a0 : Nat} {x1 : Int32} {x2 : Int32} {b0 : Nat} {w : MW} (h0 : mTg w a0 = 10) (h1 : mTg w b0 = 50) (h2 : mE ≤ b0) (h3 : 0 < mLn w b0) : mX d 146 4 [.ref a0, .int x1, .int x2, mJ] [.ref b0] w = mX d 146 11 [.ref a0, .int x1, .int x2, mJ] [.ref b0] (wI w b0 0 (mI w a0 0)) := by
  refine Eq.trans (X_dup f_146_4 rfl) ?_
  refine Eq.trans (X_iconst f_146_5 kc_i_0) ?_
  refine Eq.trans (X_st f_146_6 rfl rfl) ?_
  refine Eq.trans (X_getI f_146_7 h0 rfl) ?_
  refine Eq.trans (X_iast f_146_10 h1 h2 kn_0 kl_0 h3) ?_
  exact mX_mask rfl
theorem b_146_11 {d : Nat} {a0 : Nat} {x1 : Int32} {x2 : Int32} {b0 : Nat} {w : MW} (h0 : mTg w b0 = 50) (h1 : mE ≤ b0) (h2 : 1 < mLn w b0) : mX d 146 11 [.ref a0, .int x1, .int x2, mJ] [.ref b0] w = mX d 146 15 [.ref a0, .int x1, mJ, mJ] [.ref b0] (wI w b0 1 x2) := by
  refine Eq.trans (X_dup f_146_11 rfl) ?_
  refine Eq.trans (X_iconst f_146_12 kc_i_1) ?_
  refine Eq.trans (X_st f_146_13 rfl rfl) ?_
  refine Eq.trans (X_iast f_146_14 h0 h1 kn_1 kl_1 h2) ?_
  exact mX_mask rfl
theorem b_146_15 {d : Nat} {a0 : Nat} {x1 : Int32} {b0 : Nat} {w : MW} (h0 : mTg w a0 = 10) (h1 : mR w a0 9 = some (gR w a0 9)) (h2 : 50 ≤ mTg w (gR w a0 9) ∧ mTg w (gR w a0 9) < 55) (h3 : mTg w b0 = 50) (h4 : mE ≤ b0) (h5 : 2 < mLn w b0) : mX d 146 15 [.ref a0, .int x1, mJ, mJ] [.ref b0] w = mX d 146 23 [.ref a0, .int x1, mJ, mJ] [.ref b0] (wI w b0 2 (nI (mLn w (gR w a0 9)))) := by
  refine Eq.trans (X_dup f_146_15 rfl) ?_
  refine Eq.trans (X_iconst f_146_16 kc_i_2) ?_
  refine Eq.trans (X_st f_146_17 rfl rfl) ?_
  refine Eq.trans (X_getR f_146_18 h0 rfl h1) ?_
  refine Eq.trans (X_st f_146_21 rfl (if_pos h2)) ?_
  refine Eq.trans (X_iast f_146_22 h3 h4 kn_2 kl_2 h5) ?_
  exact mX_mask rfl
theorem b_146_23 {d : Nat} {a0 : Nat} {x1 : Int32} {b0 : Nat} {w : MW} (h0 : mTg w a0 = 10) (h1 : mR w a0 10 = some (gR w a0 10)) (h2 : 50 ≤ mTg w (gR w a0 10) ∧ mTg w (gR w a0 10) < 55) (h3 : mTg w b0 = 50) (h4 : mE ≤ b0) (h5 : 3 < mLn w b0) : mX d 146 23 [.ref a0, .int x1, mJ, mJ] [.ref b0] w = mX d 146 31 [.ref a0, .int x1, mJ, mJ] [.ref b0] (wI w b0 3 (nI (mLn w (gR w a0 10)))) := by
  refine Eq.trans (X_dup f_146_23 rfl) ?_
  refine Eq.trans (X_iconst f_146_24 kc_i_3) ?_
  refine Eq.trans (X_st f_146_25 rfl rfl) ?_
  refine Eq.trans (X_getR f_146_26 h0 rfl h1) ?_
  refine Eq.trans (X_st f_146_29 rfl (if_pos h2)) ?_
  refine Eq.trans (X_iast f_146_30 h3 h4 kn_3 kl_3 h5) ?_
  exact mX_mask rfl
theorem b_146_31 {d : Nat} {a0 : Nat} {x1 : Int32} {b0 : Nat} {w : MW} (h0 : mTg w a0 = 10) (h1 : mR w a0 12 = some (gR w a0 12)) (h2 : 50 ≤ mTg w (gR w a0 12) ∧ mTg w (gR w a0 12) < 55) (h3 : mTg w b0 = 50) (h4 : mE ≤ b0) (h5 : 4 < mLn w b0) : mX d 146 31 [.ref a0, .int x1, mJ, mJ] [.ref b0] w = mX d 146 39 [.ref a0, .int x1, mJ, mJ] [.ref b0] (wI w b0 4 (nI (mLn w (gR w a0 12)))) := by
  refine Eq.trans (X_dup f_146_31 rfl) ?_
  refine Eq.trans (X_iconst f_146_32 kc_i_4) ?_
  refine Eq.trans (X_st f_146_33 rfl rfl) ?_
  refine Eq.trans (X_getR f_146_34 h0 rfl h1) ?_
  refine Eq.trans (X_st f_146_37 rfl (if_pos h2)) ?_
  refine Eq.trans (X_iast f_146_38 h3 h4 kn_4 kl_4 h5) ?_
  exact mX_mask rfl
theorem b_146_39 {d : Nat} {a0 : Nat} {x1 : Int32} {b0 : Nat} {w : MW} (h0 : mTg w a0 = 10) (h1 : mR w a0 15 = some (gR w a0 15)) (h2 : 50 ≤ mTg w (gR w a0 15) ∧ mTg w (gR w a0 15) < 55) (h3 : mTg w b0 = 50) (h4 : mE ≤ b0) (h5 : 5 < mLn w b0) : mX d 146 39 [.ref a0, .int x1, mJ, mJ] [.ref b0] w = mX d 146 47 [.ref a0, .int x1, mJ, mJ] [.ref b0] (wI w b0 5 (nI (mLn w (gR w a0 15)))) := by
  refine Eq.trans (X_dup f_146_39 rfl) ?_
  refine Eq.trans (X_iconst f_146_40 kc_i_5) ?_
  refine Eq.trans (X_st f_146_41 rfl rfl) ?_
  refine Eq.trans (X_getR f_146_42 h0 rfl h1) ?_
  refine Eq.trans (X_st f_146_45 rfl (if_pos h2)) ?_
  refine Eq.trans (X_iast f_146_46 h3 h4 kn_5 kl_5 h5) ?_
  exact mX_mask rfl
theorem b_146_47 {d : Nat} {a0 : Nat} {x1 : Int32} {b0 : Nat} {w : MW} (h0 : mTg w a0 = 10) (h1 : mR w a0 17 = some (gR w a0 17)) (h2 : 50 ≤ mTg w (gR w a0 17) ∧ mTg w (gR w a0 17) < 55) (h3 : mTg w b0 = 50) (h4 : mE ≤ b0) (h5 : 6 < mLn w b0) : mX d 146 47 [.ref a0, .int x1, mJ, mJ] [.ref b0] w = mX d 146 56 [.ref a0, .int x1, mJ, mJ] [.ref b0] (wI w b0 6 (nI (mLn w (gR w a0 17)))) := by
  refine Eq.trans (X_dup f_146_47 rfl) ?_
  refine Eq.trans (X_bipush f_146_48 kc_b_6) ?_
  refine Eq.trans (X_st f_146_50 rfl rfl) ?_
  refine Eq.trans (X_getR f_146_51 h0 rfl h1) ?_
  refine Eq.trans (X_st f_146_54 rfl (if_pos h2)) ?_
  refine Eq.trans (X_iast f_146_55 h3 h4 kn_6 kl_6 h5) ?_
  exact mX_mask rfl
theorem b_146_56 {d : Nat} {a0 : Nat} {x1 : Int32} {b0 : Nat} {w : MW} (h0 : mTg w a0 = 10) (h1 : mTg w b0 = 50) (h2 : mE ≤ b0) (h3 : 7 < mLn w b0) : mX d 146 56 [.ref a0, .int x1, mJ, mJ] [.ref b0] w = mX d 146 64 [.ref a0, .int x1, mJ, mJ] [.ref b0] (wI w b0 7 (mI w a0 1)) := by
  refine Eq.trans (X_dup f_146_56 rfl) ?_
  refine Eq.trans (X_bipush f_146_57 kc_b_7) ?_
  refine Eq.trans (X_st f_146_59 rfl rfl) ?_
  refine Eq.trans (X_getI f_146_60 h0 rfl) ?_
  refine Eq.trans (X_iast f_146_63 h1 h2 kn_7 kl_7 h3) ?_
  exact mX_mask rfl
theorem b_146_64 {d : Nat} {a0 : Nat} {x1 : Int32} {b0 : Nat} {w : MW} (h0 : mTg w a0 = 10) : mX d 146 64 [.ref a0, .int x1, mJ, mJ] [.ref b0] w = (if nI 0 ≤ (mI w a0 1) then mX d 146 78 [.ref a0, .int x1, mJ, mJ] [.int (nI 8), .ref b0, .ref b0] w else mX d 146 74 [.ref a0, .int x1, mJ, mJ] [.int (nI 8), .ref b0, .ref b0] w) := by
  refine Eq.trans (X_dup f_146_64 rfl) ?_
  refine Eq.trans (X_bipush f_146_65 kc_b_8) ?_
  refine Eq.trans (X_st f_146_67 rfl rfl) ?_
  refine Eq.trans (X_getI f_146_68 h0 rfl) ?_
  refine Eq.trans (X_br f_146_71 rfl rfl) ?_
  exact mIte_eq (mX_mask rfl) (mX_mask rfl)
theorem b_146_74 {d : Nat} {a0 : Nat} {x1 : Int32} {y0 : Int32} {b1 : Nat} {b2 : Nat} {w : MW} : mX d 146 74 [.ref a0, .int x1, mJ, mJ] [.int y0, .ref b1, .ref b2] w = mX d 146 82 [.ref a0, .int x1, mJ, mJ] [.int (-1 : Int32), .int y0, .ref b1, .ref b2] w := by
  refine Eq.trans (X_iconst f_146_74 kc_i_m1) ?_
  refine Eq.trans (X_st f_146_75 rfl rfl) ?_
  exact mX_mask rfl
theorem b_146_78 {d : Nat} {a0 : Nat} {x1 : Int32} {y0 : Int32} {b1 : Nat} {b2 : Nat} {w : MW} (h0 : mTg w a0 = 10) : mX d 146 78 [.ref a0, .int x1, mJ, mJ] [.int y0, .ref b1, .ref b2] w = mX d 146 82 [.ref a0, .int x1, mJ, mJ] [.int (mI w a0 4), .int y0, .ref b1, .ref b2] w := by
  refine Eq.trans (X_st f_146_78 rfl rfl) ?_
  refine Eq.trans (X_getI f_146_79 h0 rfl) ?_
  exact mX_mask rfl
theorem b_146_82 {d : Nat} {a0 : Nat} {x1 : Int32} {y0 : Int32} {y1 : Nat} {b2 : Nat} {b3 : Nat} {w : MW} (h0 : mTg w b2 = 50) (h1 : mE ≤ b2) (h2 : y1 < 2147483648) (h3 : y1 < mLn w b2) : mX d 146 82 [.ref a0, .int x1, mJ, mJ] [.int y0, .int (nI y1), .ref b2, .ref b3] w = mX d 146 83 [.ref a0, .int x1, mJ, mJ] [.ref b3] (wI w b2 y1 y0) := by
  refine Eq.trans (X_iast f_146_82 h0 h1 (jnn h2) (jcl h2) h3) ?_
  exact mX_mask rfl
theorem b_146_83 {d : Nat} {a0 : Nat} {x1 : Int32} {b0 : Nat} {w : MW} (h0 : mTg w a0 = 10) : mX (d + 1) 146 83 [.ref a0, .int x1, mJ, mJ] [.ref b0] w = mThen (mK d 129 [.ref a0] w) (fun v w9 => mX (d + 1) 146 90 [.ref a0, .int x1, mJ, mJ] (v.toList ++ [.int (nI 9), .ref b0, .ref b0]) w9) := by
  refine Eq.trans (X_dup f_146_83 rfl) ?_
  refine Eq.trans (X_bipush f_146_84 kc_b_9) ?_
  refine Eq.trans (X_st f_146_86 rfl rfl) ?_
  refine Eq.trans (X_call f_146_87 (by decide) rfl rfl rfl rfl rfl rfl (Nat.le_of_ble_eq_true rfl) (Nat.le_of_ble_eq_true rfl) (decide_eq_true h0) (Nat.le_of_ble_eq_true rfl)) ?_
  exact mThen_eq fun v w9 => mX_mask rfl
theorem b_146_90 {d : Nat} {a0 : Nat} {x1 : Int32} {y0 : Int32} {y1 : Nat} {b2 : Nat} {b3 : Nat} {w : MW} (h0 : mTg w b2 = 50) (h1 : mE ≤ b2) (h2 : y1 < 2147483648) (h3 : y1 < mLn w b2) : mX d 146 90 [.ref a0, .int x1, mJ, mJ] [.int y0, .int (nI y1), .ref b2, .ref b3] w = mX d 146 91 [.ref a0, .int x1, mJ, mJ] [.ref b3] (wI w b2 y1 y0) := by
  refine Eq.trans (X_iast f_146_90 h0 h1 (jnn h2) (jcl h2) h3) ?_
  exact mX_mask rfl
theorem b_146_91 {d : Nat} {a0 : Nat} {x1 : Int32} {b0 : Nat} {w : MW} (h0 : mTg w a0 = 10) : mX (d + 1) 146 91 [.ref a0, .int x1, mJ, mJ] [.ref b0] w = mThen (mK d 132 [.ref a0] w) (fun v w9 => mX (d + 1) 146 98 [.ref a0, .int x1, mJ, mJ] (v.toList ++ [.int (nI 10), .ref b0, .ref b0]) w9) := by
  refine Eq.trans (X_dup f_146_91 rfl) ?_
  refine Eq.trans (X_bipush f_146_92 kc_b_10) ?_
  refine Eq.trans (X_st f_146_94 rfl rfl) ?_
  refine Eq.trans (X_call f_146_95 (by decide) rfl rfl rfl rfl rfl rfl (Nat.le_of_ble_eq_true rfl) (Nat.le_of_ble_eq_true rfl) (decide_eq_true h0) (Nat.le_of_ble_eq_true rfl)) ?_
  exact mThen_eq fun v w9 => mX_mask rfl
theorem b_146_98 {d : Nat} {a0 : Nat} {x1 : Int32} {y0 : Int32} {y1 : Nat} {b2 : Nat} {b3 : Nat} {w : MW} (h0 : mTg w b2 = 50) (h1 : mE ≤ b2) (h2 : y1 < 2147483648) (h3 : y1 < mLn w b2) : mX d 146 98 [.ref a0, .int x1, mJ, mJ] [.int y0, .int (nI y1), .ref b2, .ref b3] w = mX d 146 99 [.ref a0, .int x1, mJ, mJ] [.ref b3] (wI w b2 y1 y0) := by
  refine Eq.trans (X_iast f_146_98 h0 h1 (jnn h2) (jcl h2) h3) ?_
  exact mX_mask rfl
theorem b_146_99 {d : Nat} {a0 : Nat} {x1 : Int32} {b0 : Nat} {w : MW} (h0 : mTg w a0 = 10) (h1 : mR w a0 7 = some (gR w a0 7)) (h2 : mTg w (gR w a0 7) = 50) (h3 : 0 < mLn w (gR w a0 7)) (h4 : mTg w b0 = 50) (h5 : mE ≤ b0) (h6 : 11 < mLn w b0) : mX d 146 99 [.ref a0, .int x1, mJ, mJ] [.ref b0] w = mX d 146 109 [.ref a0, .int x1, mJ, mJ] [.ref b0] (wI w b0 11 (mI w (gR w a0 7) 0)) := by
  refine Eq.trans (X_dup f_146_99 rfl) ?_
  refine Eq.trans (X_bipush f_146_100 kc_b_11) ?_
  refine Eq.trans (X_st f_146_102 rfl rfl) ?_
  refine Eq.trans (X_getR f_146_103 h0 rfl h1) ?_
  refine Eq.trans (X_iconst f_146_106 kc_i_0) ?_
  refine Eq.trans (X_iald f_146_107 h2 kn_0 kl_0 h3) ?_
  refine Eq.trans (X_iast f_146_108 h4 h5 kn_11 kl_11 h6) ?_
  exact mX_mask rfl
theorem b_146_109 {d : Nat} {a0 : Nat} {x1 : Int32} {b0 : Nat} {w : MW} (h0 : mTg w a0 = 10) (h1 : mR w a0 7 = some (gR w a0 7)) (h2 : mTg w (gR w a0 7) = 50) (h3 : 1 < mLn w (gR w a0 7)) (h4 : mTg w b0 = 50) (h5 : mE ≤ b0) (h6 : 12 < mLn w b0) : mX d 146 109 [.ref a0, .int x1, mJ, mJ] [.ref b0] w = mX d 146 119 [.ref a0, .int x1, mJ, mJ] [.ref b0] (wI w b0 12 (mI w (gR w a0 7) 1)) := by
  refine Eq.trans (X_dup f_146_109 rfl) ?_
  refine Eq.trans (X_bipush f_146_110 kc_b_12) ?_
  refine Eq.trans (X_st f_146_112 rfl rfl) ?_
  refine Eq.trans (X_getR f_146_113 h0 rfl h1) ?_
  refine Eq.trans (X_iconst f_146_116 kc_i_1) ?_
  refine Eq.trans (X_iald f_146_117 h2 kn_1 kl_1 h3) ?_
  refine Eq.trans (X_iast f_146_118 h4 h5 kn_12 kl_12 h6) ?_
  exact mX_mask rfl
theorem b_146_119 {d : Nat} {a0 : Nat} {x1 : Int32} {b0 : Nat} {w : MW} (h0 : mTg w a0 = 10) (h1 : mR w a0 7 = some (gR w a0 7)) (h2 : mTg w (gR w a0 7) = 50) (h3 : 2 < mLn w (gR w a0 7)) (h4 : mTg w b0 = 50) (h5 : mE ≤ b0) (h6 : 13 < mLn w b0) : mX d 146 119 [.ref a0, .int x1, mJ, mJ] [.ref b0] w = mX d 146 129 [.ref a0, .int x1, mJ, mJ] [.ref b0] (wI w b0 13 (mI w (gR w a0 7) 2)) := by
  refine Eq.trans (X_dup f_146_119 rfl) ?_
  refine Eq.trans (X_bipush f_146_120 kc_b_13) ?_
  refine Eq.trans (X_st f_146_122 rfl rfl) ?_
  refine Eq.trans (X_getR f_146_123 h0 rfl h1) ?_
  refine Eq.trans (X_iconst f_146_126 kc_i_2) ?_
  refine Eq.trans (X_iald f_146_127 h2 kn_2 kl_2 h3) ?_
  refine Eq.trans (X_iast f_146_128 h4 h5 kn_13 kl_13 h6) ?_
  exact mX_mask rfl
theorem b_146_129 {d : Nat} {a0 : Nat} {x1 : Int32} {b0 : Nat} {w : MW} (h0 : mTg w a0 = 10) (h1 : mR w a0 7 = some (gR w a0 7)) (h2 : mTg w (gR w a0 7) = 50) (h3 : 3 < mLn w (gR w a0 7)) (h4 : mTg w b0 = 50) (h5 : mE ≤ b0) (h6 : 14 < mLn w b0) : mX d 146 129 [.ref a0, .int x1, mJ, mJ] [.ref b0] w = mX d 146 139 [.ref a0, .int x1, mJ, mJ] [.ref b0] (wI w b0 14 (mI w (gR w a0 7) 3)) := by
  refine Eq.trans (X_dup f_146_129 rfl) ?_
  refine Eq.trans (X_bipush f_146_130 kc_b_14) ?_
  refine Eq.trans (X_st f_146_132 rfl rfl) ?_
  refine Eq.trans (X_getR f_146_133 h0 rfl h1) ?_
  refine Eq.trans (X_iconst f_146_136 kc_i_3) ?_
  refine Eq.trans (X_iald f_146_137 h2 kn_3 kl_3 h3) ?_
  refine Eq.trans (X_iast f_146_138 h4 h5 kn_14 kl_14 h6) ?_
  exact mX_mask rfl
theorem b_146_139 {d : Nat} {a0 : Nat} {x1 : Int32} {b0 : Nat} {w : MW} (h0 : mTg w a0 = 10) (h1 : mR w a0 7 = some (gR w a0 7)) (h2 : mTg w (gR w a0 7) = 50) (h3 : 4 < mLn w (gR w a0 7)) (h4 : mTg w b0 = 50) (h5 : mE ≤ b0) (h6 : 15 < mLn w b0) : mX d 146 139 [.ref a0, .int x1, mJ, mJ] [.ref b0] w = mX d 146 149 [.ref a0, .int x1, mJ, mJ] [.ref b0] (wI w b0 15 (mI w (gR w a0 7) 4)) := by
  refine Eq.trans (X_dup f_146_139 rfl) ?_
  refine Eq.trans (X_bipush f_146_140 kc_b_15) ?_
  refine Eq.trans (X_st f_146_142 rfl rfl) ?_
  refine Eq.trans (X_getR f_146_143 h0 rfl h1) ?_
  refine Eq.trans (X_iconst f_146_146 kc_i_4) ?_
  refine Eq.trans (X_iald f_146_147 h2 kn_4 kl_4 h3) ?_
  refine Eq.trans (X_iast f_146_148 h4 h5 kn_15 kl_15 h6) ?_
  exact mX_mask rfl
theorem b_146_149 {d : Nat} {a0 : Nat} {x1 : Int32} {b0 : Nat} {w : MW} (h0 : mTg w a0 = 10) (h1 : mR w a0 7 = some (gR w a0 7)) (h2 : mTg w (gR w a0 7) = 50) (h3 : 5 < mLn w (gR w a0 7)) (h4 : mTg w b0 = 50) (h5 : mE ≤ b0) (h6 : 16 < mLn w b0) : mX d 146 149 [.ref a0, .int x1, mJ, mJ] [.ref b0] w = mX d 146 159 [mJ, .int x1, mJ, mJ] [.ref b0] (wI w b0 16 (mI w (gR w a0 7) 5)) := by
  refine Eq.trans (X_dup f_146_149 rfl) ?_
  refine Eq.trans (X_bipush f_146_150 kc_b_16) ?_
  refine Eq.trans (X_st f_146_152 rfl rfl) ?_
  refine Eq.trans (X_getR f_146_153 h0 rfl h1) ?_
  refine Eq.trans (X_iconst f_146_156 kc_i_5) ?_
  refine Eq.trans (X_iald f_146_157 h2 kn_5 kl_5 h3) ?_
  refine Eq.trans (X_iast f_146_158 h4 h5 kn_16 kl_16 h6) ?_
  exact mX_mask rfl
theorem b_146_159 {d : Nat} {x1 : Int32} {b0 : Nat} {w : MW} (h0 : mTg w b0 = 50) (h1 : mE ≤ b0) (h2 : 17 < mLn w b0) : mX d 146 159 [mJ, .int x1, mJ, mJ] [.ref b0] w = mX d 146 164 [mJ, .int x1, mJ, mJ] [.ref b0] (wI w b0 17 (nI 0)) := by
  refine Eq.trans (X_dup f_146_159 rfl) ?_
  refine Eq.trans (X_bipush f_146_160 kc_b_17) ?_
  refine Eq.trans (X_iconst f_146_162 kc_i_0) ?_
  refine Eq.trans (X_iast f_146_163 h0 h1 kn_17 kl_17 h2) ?_
  exact mX_mask rfl
theorem b_146_164 {d : Nat} {x1 : Nat} {b0 : Nat} {w : MW} (h0 : mTg w b0 = 50) (h1 : x1 < 2147483648) (h2 : x1 < mLn w b0) : mX d 146 164 [mJ, .int (nI x1), mJ, mJ] [.ref b0] w = some (.inl (some (.int (mI w b0 x1))), w) := by
  refine Eq.trans (X_astore_n (L' := [mJ, .int (nI x1), mJ, .ref b0]) f_146_164 (Nat.le_of_ble_eq_true rfl) rfl) ?_
  refine Eq.trans (X_st f_146_165 rfl rfl) ?_
  refine Eq.trans (X_st f_146_166 rfl rfl) ?_
  refine Eq.trans (X_iald f_146_167 h0 (jnn h1) (jcl h1) h2) ?_
  exact X_ireturn f_146_168 rfl
/-! BeeTurnpikeLaw$Sim isSame (LBeeTurnpike;)Z -/
theorem f_147_0 : mFetch 147 0 = some (.iconst 0, 1, []) := by decide +kernel
theorem f_147_1 : mFetch 147 1 = some (.istore_n 2, 1, []) := by decide +kernel
theorem f_147_2 : mFetch 147 2 = some (.iload_n 2, 1, []) := by decide +kernel
theorem f_147_3 : mFetch 147 3 = some (.bipush 18, 2, []) := by decide +kernel
theorem f_147_5 : mFetch 147 5 = some (.if_icmp .ge 29, 3, [34]) := by decide +kernel
theorem f_147_8 : mFetch 147 8 = some (.aload_n 1, 1, []) := by decide +kernel
theorem f_147_9 : mFetch 147 9 = some (.iload_n 2, 1, []) := by decide +kernel
theorem f_147_10 : mFetch 147 10 = some (.invokevirtual 143, 3, [99, 2, 2, 9, 900, 474, 475]) := by decide +kernel
theorem f_147_13 : mFetch 147 13 = some (.aload_n 0, 1, []) := by decide +kernel
theorem f_147_14 : mFetch 147 14 = some (.iload_n 2, 1, []) := by decide +kernel
theorem f_147_15 : mFetch 147 15 = some (.aload_n 0, 1, []) := by decide +kernel
theorem f_147_16 : mFetch 147 16 = some (.getfield 17, 3, [10, 8, 0, 1338]) := by decide +kernel
theorem f_147_19 : mFetch 147 19 = some (.arraylength, 1, []) := by decide +kernel
theorem f_147_20 : mFetch 147 20 = some (.invokevirtual 148, 3, [146, 3, 2, 10, 901, 902, 903]) := by decide +kernel
theorem f_147_23 : mFetch 147 23 = some (.if_icmp .eq 5, 3, [28]) := by decide +kernel
theorem f_147_26 : mFetch 147 26 = some (.iconst 0, 1, []) := by decide +kernel
theorem f_147_27 : mFetch 147 27 = some (.ireturn, 1, [2]) := by decide +kernel
theorem f_147_28 : mFetch 147 28 = some (.iinc 2 1, 3, []) := by decide +kernel
theorem f_147_31 : mFetch 147 31 = some (.goto (-29), 3, [2]) := by decide +kernel
theorem f_147_34 : mFetch 147 34 = some (.iconst 0, 1, []) := by decide +kernel
theorem f_147_35 : mFetch 147 35 = some (.istore_n 2, 1, []) := by decide +kernel
theorem f_147_36 : mFetch 147 36 = some (.iload_n 2, 1, []) := by decide +kernel
theorem f_147_37 : mFetch 147 37 = some (.aload_n 0, 1, []) := by decide +kernel
theorem f_147_38 : mFetch 147 38 = some (.getfield 21, 3, [10, 9, 0, 1340]) := by decide +kernel
theorem f_147_41 : mFetch 147 41 = some (.arraylength, 1, []) := by decide +kernel
theorem f_147_42 : mFetch 147 42 = some (.if_icmp .ge 199, 3, [241]) := by decide +kernel
theorem f_147_45 : mFetch 147 45 = some (.iconst 0, 1, []) := by decide +kernel
theorem f_147_46 : mFetch 147 46 = some (.istore_n 3, 1, []) := by decide +kernel
theorem f_147_47 : mFetch 147 47 = some (.aload_n 0, 1, []) := by decide +kernel
theorem f_147_48 : mFetch 147 48 = some (.getfield 25, 3, [10, 10, 0, 1342]) := by decide +kernel
theorem f_147_51 : mFetch 147 51 = some (.astore 4, 2, []) := by decide +kernel
theorem f_147_53 : mFetch 147 53 = some (.aload 4, 2, []) := by decide +kernel
theorem f_147_55 : mFetch 147 55 = some (.arraylength, 1, []) := by decide +kernel
theorem f_147_56 : mFetch 147 56 = some (.istore 5, 2, []) := by decide +kernel
theorem f_147_58 : mFetch 147 58 = some (.iconst 0, 1, []) := by decide +kernel
theorem f_147_59 : mFetch 147 59 = some (.istore 6, 2, []) := by decide +kernel
theorem f_147_61 : mFetch 147 61 = some (.iload 6, 2, []) := by decide +kernel
theorem f_147_63 : mFetch 147 63 = some (.iload 5, 2, []) := by decide +kernel
theorem f_147_65 : mFetch 147 65 = some (.if_icmp .ge 80, 3, [145]) := by decide +kernel
theorem f_147_68 : mFetch 147 68 = some (.aload 4, 2, []) := by decide +kernel
theorem f_147_70 : mFetch 147 70 = some (.iload 6, 2, []) := by decide +kernel
theorem f_147_72 : mFetch 147 72 = some (.aaload, 1, []) := by decide +kernel
theorem f_147_73 : mFetch 147 73 = some (.astore 7, 2, []) := by decide +kernel
theorem f_147_75 : mFetch 147 75 = some (.iconst 0, 1, []) := by decide +kernel
theorem f_147_76 : mFetch 147 76 = some (.istore 8, 2, []) := by decide +kernel
theorem f_147_78 : mFetch 147 78 = some (.aload 7, 2, []) := by decide +kernel
theorem f_147_80 : mFetch 147 80 = some (.astore 9, 2, []) := by decide +kernel
theorem f_147_82 : mFetch 147 82 = some (.aload 9, 2, []) := by decide +kernel
theorem f_147_84 : mFetch 147 84 = some (.arraylength, 1, []) := by decide +kernel
theorem f_147_85 : mFetch 147 85 = some (.istore 10, 2, []) := by decide +kernel
theorem f_147_87 : mFetch 147 87 = some (.iconst 0, 1, []) := by decide +kernel
theorem f_147_88 : mFetch 147 88 = some (.istore 11, 2, []) := by decide +kernel
theorem f_147_90 : mFetch 147 90 = some (.iload 11, 2, []) := by decide +kernel
theorem f_147_92 : mFetch 147 92 = some (.iload 10, 2, []) := by decide +kernel
theorem f_147_94 : mFetch 147 94 = some (.if_icmp .ge 32, 3, [126]) := by decide +kernel
theorem f_147_97 : mFetch 147 97 = some (.aload 9, 2, []) := by decide +kernel
theorem f_147_99 : mFetch 147 99 = some (.iload 11, 2, []) := by decide +kernel
theorem f_147_101 : mFetch 147 101 = some (.iaload, 1, []) := by decide +kernel
theorem f_147_102 : mFetch 147 102 = some (.istore 12, 2, []) := by decide +kernel
theorem f_147_104 : mFetch 147 104 = some (.iload 8, 2, []) := by decide +kernel
theorem f_147_106 : mFetch 147 106 = some (.iload 12, 2, []) := by decide +kernel
theorem f_147_108 : mFetch 147 108 = some (.iload_n 2, 1, []) := by decide +kernel
theorem f_147_109 : mFetch 147 109 = some (.if_icmp .ne 7, 3, [116]) := by decide +kernel
theorem f_147_112 : mFetch 147 112 = some (.iconst 1, 1, []) := by decide +kernel
theorem f_147_113 : mFetch 147 113 = some (.goto 4, 3, [117]) := by decide +kernel
theorem f_147_116 : mFetch 147 116 = some (.iconst 0, 1, []) := by decide +kernel
theorem f_147_117 : mFetch 147 117 = some (.ior, 1, []) := by decide +kernel
theorem f_147_118 : mFetch 147 118 = some (.istore 8, 2, []) := by decide +kernel
theorem f_147_120 : mFetch 147 120 = some (.iinc 11 1, 3, []) := by decide +kernel
theorem f_147_123 : mFetch 147 123 = some (.goto (-33), 3, [90]) := by decide +kernel
theorem f_147_126 : mFetch 147 126 = some (.iload_n 3, 1, []) := by decide +kernel
theorem f_147_127 : mFetch 147 127 = some (.iload 8, 2, []) := by decide +kernel
theorem f_147_129 : mFetch 147 129 = some (.ifCond .eq 7, 3, [136]) := by decide +kernel
theorem f_147_132 : mFetch 147 132 = some (.iconst 1, 1, []) := by decide +kernel
theorem f_147_133 : mFetch 147 133 = some (.goto 4, 3, [137]) := by decide +kernel
theorem f_147_136 : mFetch 147 136 = some (.iconst 0, 1, []) := by decide +kernel
theorem f_147_137 : mFetch 147 137 = some (.iadd, 1, []) := by decide +kernel
theorem f_147_138 : mFetch 147 138 = some (.istore_n 3, 1, []) := by decide +kernel
theorem f_147_139 : mFetch 147 139 = some (.iinc 6 1, 3, []) := by decide +kernel
theorem f_147_142 : mFetch 147 142 = some (.goto (-81), 3, [61]) := by decide +kernel
theorem f_147_145 : mFetch 147 145 = some (.iconst 5, 1, []) := by decide +kernel
theorem f_147_146 : mFetch 147 146 = some (.newarray .int, 2, [50]) := by decide +kernel
theorem f_147_148 : mFetch 147 148 = some (.dup, 1, []) := by decide +kernel
theorem f_147_149 : mFetch 147 149 = some (.iconst 0, 1, []) := by decide +kernel
theorem f_147_150 : mFetch 147 150 = some (.aload_n 0, 1, []) := by decide +kernel
theorem f_147_151 : mFetch 147 151 = some (.getfield 21, 3, [10, 9, 0, 1340]) := by decide +kernel
theorem f_147_154 : mFetch 147 154 = some (.iload_n 2, 1, []) := by decide +kernel
theorem f_147_155 : mFetch 147 155 = some (.aaload, 1, []) := by decide +kernel
theorem f_147_156 : mFetch 147 156 = some (.iconst 0, 1, []) := by decide +kernel
theorem f_147_157 : mFetch 147 157 = some (.iaload, 1, []) := by decide +kernel
theorem f_147_158 : mFetch 147 158 = some (.iastore, 1, []) := by decide +kernel
theorem f_147_159 : mFetch 147 159 = some (.dup, 1, []) := by decide +kernel
theorem f_147_160 : mFetch 147 160 = some (.iconst 1, 1, []) := by decide +kernel
theorem f_147_161 : mFetch 147 161 = some (.aload_n 0, 1, []) := by decide +kernel
theorem f_147_162 : mFetch 147 162 = some (.getfield 21, 3, [10, 9, 0, 1340]) := by decide +kernel
theorem f_147_165 : mFetch 147 165 = some (.iload_n 2, 1, []) := by decide +kernel
theorem f_147_166 : mFetch 147 166 = some (.aaload, 1, []) := by decide +kernel
theorem f_147_167 : mFetch 147 167 = some (.iconst 1, 1, []) := by decide +kernel
theorem f_147_168 : mFetch 147 168 = some (.iaload, 1, []) := by decide +kernel
theorem f_147_169 : mFetch 147 169 = some (.iastore, 1, []) := by decide +kernel
theorem f_147_170 : mFetch 147 170 = some (.dup, 1, []) := by decide +kernel
theorem f_147_171 : mFetch 147 171 = some (.iconst 2, 1, []) := by decide +kernel
theorem f_147_172 : mFetch 147 172 = some (.aload_n 0, 1, []) := by decide +kernel
theorem f_147_173 : mFetch 147 173 = some (.getfield 21, 3, [10, 9, 0, 1340]) := by decide +kernel
theorem f_147_176 : mFetch 147 176 = some (.iload_n 2, 1, []) := by decide +kernel
theorem f_147_177 : mFetch 147 177 = some (.aaload, 1, []) := by decide +kernel
theorem f_147_178 : mFetch 147 178 = some (.iconst 2, 1, []) := by decide +kernel
theorem f_147_179 : mFetch 147 179 = some (.iaload, 1, []) := by decide +kernel
theorem f_147_180 : mFetch 147 180 = some (.iastore, 1, []) := by decide +kernel
theorem f_147_181 : mFetch 147 181 = some (.dup, 1, []) := by decide +kernel
theorem f_147_182 : mFetch 147 182 = some (.iconst 3, 1, []) := by decide +kernel
theorem f_147_183 : mFetch 147 183 = some (.aload_n 0, 1, []) := by decide +kernel
theorem f_147_184 : mFetch 147 184 = some (.getfield 17, 3, [10, 8, 0, 1338]) := by decide +kernel
theorem f_147_187 : mFetch 147 187 = some (.aload_n 0, 1, []) := by decide +kernel
theorem f_147_188 : mFetch 147 188 = some (.getfield 21, 3, [10, 9, 0, 1340]) := by decide +kernel
theorem f_147_191 : mFetch 147 191 = some (.iload_n 2, 1, []) := by decide +kernel
theorem f_147_192 : mFetch 147 192 = some (.aaload, 1, []) := by decide +kernel
theorem f_147_193 : mFetch 147 193 = some (.iconst 0, 1, []) := by decide +kernel
theorem f_147_194 : mFetch 147 194 = some (.iaload, 1, []) := by decide +kernel
theorem f_147_195 : mFetch 147 195 = some (.iaload, 1, []) := by decide +kernel
theorem f_147_196 : mFetch 147 196 = some (.iastore, 1, []) := by decide +kernel
theorem f_147_197 : mFetch 147 197 = some (.dup, 1, []) := by decide +kernel
theorem f_147_198 : mFetch 147 198 = some (.iconst 4, 1, []) := by decide +kernel
theorem f_147_199 : mFetch 147 199 = some (.iload_n 3, 1, []) := by decide +kernel
theorem f_147_200 : mFetch 147 200 = some (.iastore, 1, []) := by decide +kernel
theorem f_147_201 : mFetch 147 201 = some (.astore 4, 2, []) := by decide +kernel
theorem f_147_203 : mFetch 147 203 = some (.iconst 0, 1, []) := by decide +kernel
theorem f_147_204 : mFetch 147 204 = some (.istore 5, 2, []) := by decide +kernel
theorem f_147_206 : mFetch 147 206 = some (.iload 5, 2, []) := by decide +kernel
theorem f_147_208 : mFetch 147 208 = some (.iconst 5, 1, []) := by decide +kernel
theorem f_147_209 : mFetch 147 209 = some (.if_icmp .ge 26, 3, [235]) := by decide +kernel
theorem f_147_212 : mFetch 147 212 = some (.aload_n 1, 1, []) := by decide +kernel
theorem f_147_213 : mFetch 147 213 = some (.iload_n 2, 1, []) := by decide +kernel
theorem f_147_214 : mFetch 147 214 = some (.iload 5, 2, []) := by decide +kernel
theorem f_147_216 : mFetch 147 216 = some (.invokevirtual 151, 3, [100, 3, 2, 9, 905, 906, 907]) := by decide +kernel
theorem f_147_219 : mFetch 147 219 = some (.aload 4, 2, []) := by decide +kernel
theorem f_147_221 : mFetch 147 221 = some (.iload 5, 2, []) := by decide +kernel
theorem f_147_223 : mFetch 147 223 = some (.iaload, 1, []) := by decide +kernel
theorem f_147_224 : mFetch 147 224 = some (.if_icmp .eq 5, 3, [229]) := by decide +kernel
theorem f_147_227 : mFetch 147 227 = some (.iconst 0, 1, []) := by decide +kernel
theorem f_147_228 : mFetch 147 228 = some (.ireturn, 1, [2]) := by decide +kernel
theorem f_147_229 : mFetch 147 229 = some (.iinc 5 1, 3, []) := by decide +kernel
theorem f_147_232 : mFetch 147 232 = some (.goto (-26), 3, [206]) := by decide +kernel
theorem f_147_235 : mFetch 147 235 = some (.iinc 2 1, 3, []) := by decide +kernel
theorem f_147_238 : mFetch 147 238 = some (.goto (-202), 3, [36]) := by decide +kernel
theorem f_147_241 : mFetch 147 241 = some (.iconst 0, 1, []) := by decide +kernel
theorem f_147_242 : mFetch 147 242 = some (.istore_n 2, 1, []) := by decide +kernel
theorem f_147_243 : mFetch 147 243 = some (.iload_n 2, 1, []) := by decide +kernel
theorem f_147_244 : mFetch 147 244 = some (.aload_n 0, 1, []) := by decide +kernel
theorem f_147_245 : mFetch 147 245 = some (.getfield 25, 3, [10, 10, 0, 1342]) := by decide +kernel
theorem f_147_248 : mFetch 147 248 = some (.arraylength, 1, []) := by decide +kernel
theorem f_147_249 : mFetch 147 249 = some (.if_icmp .ge 134, 3, [383]) := by decide +kernel
theorem f_147_252 : mFetch 147 252 = some (.iconst 5, 1, []) := by decide +kernel
theorem f_147_253 : mFetch 147 253 = some (.newarray .int, 2, [50]) := by decide +kernel
theorem f_147_255 : mFetch 147 255 = some (.dup, 1, []) := by decide +kernel
theorem f_147_256 : mFetch 147 256 = some (.iconst 0, 1, []) := by decide +kernel
theorem f_147_257 : mFetch 147 257 = some (.aload_n 0, 1, []) := by decide +kernel
theorem f_147_258 : mFetch 147 258 = some (.getfield 25, 3, [10, 10, 0, 1342]) := by decide +kernel
theorem f_147_261 : mFetch 147 261 = some (.iload_n 2, 1, []) := by decide +kernel
theorem f_147_262 : mFetch 147 262 = some (.aaload, 1, []) := by decide +kernel
theorem f_147_263 : mFetch 147 263 = some (.arraylength, 1, []) := by decide +kernel
theorem f_147_264 : mFetch 147 264 = some (.iastore, 1, []) := by decide +kernel
theorem f_147_265 : mFetch 147 265 = some (.dup, 1, []) := by decide +kernel
theorem f_147_266 : mFetch 147 266 = some (.iconst 1, 1, []) := by decide +kernel
theorem f_147_267 : mFetch 147 267 = some (.aload_n 0, 1, []) := by decide +kernel
theorem f_147_268 : mFetch 147 268 = some (.iload_n 2, 1, []) := by decide +kernel
theorem f_147_269 : mFetch 147 269 = some (.invokevirtual 79, 3, [127, 2, 2, 10, 851, 852, 853]) := by decide +kernel
theorem f_147_272 : mFetch 147 272 = some (.iastore, 1, []) := by decide +kernel
theorem f_147_273 : mFetch 147 273 = some (.dup, 1, []) := by decide +kernel
theorem f_147_274 : mFetch 147 274 = some (.iconst 2, 1, []) := by decide +kernel
theorem f_147_275 : mFetch 147 275 = some (.aload_n 0, 1, []) := by decide +kernel
theorem f_147_276 : mFetch 147 276 = some (.iload_n 2, 1, []) := by decide +kernel
theorem f_147_277 : mFetch 147 277 = some (.invokevirtual 87, 3, [128, 2, 2, 10, 847, 848, 849]) := by decide +kernel
theorem f_147_280 : mFetch 147 280 = some (.iastore, 1, []) := by decide +kernel
theorem f_147_281 : mFetch 147 281 = some (.dup, 1, []) := by decide +kernel
theorem f_147_282 : mFetch 147 282 = some (.iconst 3, 1, []) := by decide +kernel
theorem f_147_283 : mFetch 147 283 = some (.aload_n 0, 1, []) := by decide +kernel
theorem f_147_284 : mFetch 147 284 = some (.getfield 28, 3, [10, 11, 0, 1344]) := by decide +kernel
theorem f_147_287 : mFetch 147 287 = some (.iload_n 2, 1, []) := by decide +kernel
theorem f_147_288 : mFetch 147 288 = some (.aaload, 1, []) := by decide +kernel
theorem f_147_289 : mFetch 147 289 = some (.iconst 0, 1, []) := by decide +kernel
theorem f_147_290 : mFetch 147 290 = some (.iaload, 1, []) := by decide +kernel
theorem f_147_291 : mFetch 147 291 = some (.iastore, 1, []) := by decide +kernel
theorem f_147_292 : mFetch 147 292 = some (.dup, 1, []) := by decide +kernel
theorem f_147_293 : mFetch 147 293 = some (.iconst 4, 1, []) := by decide +kernel
theorem f_147_294 : mFetch 147 294 = some (.aload_n 0, 1, []) := by decide +kernel
theorem f_147_295 : mFetch 147 295 = some (.getfield 28, 3, [10, 11, 0, 1344]) := by decide +kernel
theorem f_147_298 : mFetch 147 298 = some (.iload_n 2, 1, []) := by decide +kernel
theorem f_147_299 : mFetch 147 299 = some (.aaload, 1, []) := by decide +kernel
theorem f_147_300 : mFetch 147 300 = some (.iconst 1, 1, []) := by decide +kernel
theorem f_147_301 : mFetch 147 301 = some (.iaload, 1, []) := by decide +kernel
theorem f_147_302 : mFetch 147 302 = some (.iastore, 1, []) := by decide +kernel
theorem f_147_303 : mFetch 147 303 = some (.astore_n 3, 1, []) := by decide +kernel
theorem f_147_304 : mFetch 147 304 = some (.iconst 0, 1, []) := by decide +kernel
theorem f_147_305 : mFetch 147 305 = some (.istore 4, 2, []) := by decide +kernel
theorem f_147_307 : mFetch 147 307 = some (.iload 4, 2, []) := by decide +kernel
theorem f_147_309 : mFetch 147 309 = some (.iconst 5, 1, []) := by decide +kernel
theorem f_147_310 : mFetch 147 310 = some (.if_icmp .ge 25, 3, [335]) := by decide +kernel
theorem f_147_313 : mFetch 147 313 = some (.aload_n 1, 1, []) := by decide +kernel
theorem f_147_314 : mFetch 147 314 = some (.iload_n 2, 1, []) := by decide +kernel
theorem f_147_315 : mFetch 147 315 = some (.iload 4, 2, []) := by decide +kernel
theorem f_147_317 : mFetch 147 317 = some (.invokevirtual 154, 3, [101, 3, 2, 9, 910, 580, 581]) := by decide +kernel
theorem f_147_320 : mFetch 147 320 = some (.aload_n 3, 1, []) := by decide +kernel
theorem f_147_321 : mFetch 147 321 = some (.iload 4, 2, []) := by decide +kernel
theorem f_147_323 : mFetch 147 323 = some (.iaload, 1, []) := by decide +kernel
theorem f_147_324 : mFetch 147 324 = some (.if_icmp .eq 5, 3, [329]) := by decide +kernel
theorem f_147_327 : mFetch 147 327 = some (.iconst 0, 1, []) := by decide +kernel
theorem f_147_328 : mFetch 147 328 = some (.ireturn, 1, [2]) := by decide +kernel
theorem f_147_329 : mFetch 147 329 = some (.iinc 4 1, 3, []) := by decide +kernel
theorem f_147_332 : mFetch 147 332 = some (.goto (-25), 3, [307]) := by decide +kernel
theorem f_147_335 : mFetch 147 335 = some (.iconst 0, 1, []) := by decide +kernel
theorem f_147_336 : mFetch 147 336 = some (.istore 4, 2, []) := by decide +kernel
theorem f_147_338 : mFetch 147 338 = some (.iload 4, 2, []) := by decide +kernel
theorem f_147_340 : mFetch 147 340 = some (.aload_n 0, 1, []) := by decide +kernel
theorem f_147_341 : mFetch 147 341 = some (.getfield 25, 3, [10, 10, 0, 1342]) := by decide +kernel
theorem f_147_344 : mFetch 147 344 = some (.iload_n 2, 1, []) := by decide +kernel
theorem f_147_345 : mFetch 147 345 = some (.aaload, 1, []) := by decide +kernel
theorem f_147_346 : mFetch 147 346 = some (.arraylength, 1, []) := by decide +kernel
theorem f_147_347 : mFetch 147 347 = some (.if_icmp .ge 30, 3, [377]) := by decide +kernel
theorem f_147_350 : mFetch 147 350 = some (.aload_n 1, 1, []) := by decide +kernel
theorem f_147_351 : mFetch 147 351 = some (.iload_n 2, 1, []) := by decide +kernel
theorem f_147_352 : mFetch 147 352 = some (.iload 4, 2, []) := by decide +kernel
theorem f_147_354 : mFetch 147 354 = some (.invokevirtual 156, 3, [102, 3, 2, 9, 911, 912, 913]) := by decide +kernel
theorem f_147_357 : mFetch 147 357 = some (.aload_n 0, 1, []) := by decide +kernel
theorem f_147_358 : mFetch 147 358 = some (.getfield 25, 3, [10, 10, 0, 1342]) := by decide +kernel
theorem f_147_361 : mFetch 147 361 = some (.iload_n 2, 1, []) := by decide +kernel
theorem f_147_362 : mFetch 147 362 = some (.aaload, 1, []) := by decide +kernel
theorem f_147_363 : mFetch 147 363 = some (.iload 4, 2, []) := by decide +kernel
theorem f_147_365 : mFetch 147 365 = some (.iaload, 1, []) := by decide +kernel
theorem f_147_366 : mFetch 147 366 = some (.if_icmp .eq 5, 3, [371]) := by decide +kernel
theorem f_147_369 : mFetch 147 369 = some (.iconst 0, 1, []) := by decide +kernel
theorem f_147_370 : mFetch 147 370 = some (.ireturn, 1, [2]) := by decide +kernel
theorem f_147_371 : mFetch 147 371 = some (.iinc 4 1, 3, []) := by decide +kernel
theorem f_147_374 : mFetch 147 374 = some (.goto (-36), 3, [338]) := by decide +kernel
theorem f_147_377 : mFetch 147 377 = some (.iinc 2 1, 3, []) := by decide +kernel
theorem f_147_380 : mFetch 147 380 = some (.goto (-137), 3, [243]) := by decide +kernel
theorem f_147_383 : mFetch 147 383 = some (.iconst 0, 1, []) := by decide +kernel
theorem f_147_384 : mFetch 147 384 = some (.istore_n 2, 1, []) := by decide +kernel
theorem f_147_385 : mFetch 147 385 = some (.iconst 0, 1, []) := by decide +kernel
theorem f_147_386 : mFetch 147 386 = some (.istore_n 3, 1, []) := by decide +kernel
theorem f_147_387 : mFetch 147 387 = some (.iload_n 3, 1, []) := by decide +kernel
theorem f_147_388 : mFetch 147 388 = some (.aload_n 0, 1, []) := by decide +kernel
theorem f_147_389 : mFetch 147 389 = some (.getfield 31, 3, [10, 12, 0, 1346]) := by decide +kernel
theorem f_147_392 : mFetch 147 392 = some (.arraylength, 1, []) := by decide +kernel
theorem f_147_393 : mFetch 147 393 = some (.if_icmp .ge 192, 3, [585]) := by decide +kernel
theorem f_147_396 : mFetch 147 396 = some (.iconst 0, 1, []) := by decide +kernel
theorem f_147_397 : mFetch 147 397 = some (.istore 4, 2, []) := by decide +kernel
theorem f_147_399 : mFetch 147 399 = some (.iload 4, 2, []) := by decide +kernel
theorem f_147_401 : mFetch 147 401 = some (.bipush 8, 2, []) := by decide +kernel
theorem f_147_403 : mFetch 147 403 = some (.if_icmp .ge 30, 3, [433]) := by decide +kernel
theorem f_147_406 : mFetch 147 406 = some (.aload_n 1, 1, []) := by decide +kernel
theorem f_147_407 : mFetch 147 407 = some (.iload_n 3, 1, []) := by decide +kernel
theorem f_147_408 : mFetch 147 408 = some (.iload 4, 2, []) := by decide +kernel
theorem f_147_410 : mFetch 147 410 = some (.invokevirtual 159, 3, [103, 3, 2, 9, 917, 606, 607]) := by decide +kernel
theorem f_147_413 : mFetch 147 413 = some (.aload_n 0, 1, []) := by decide +kernel
theorem f_147_414 : mFetch 147 414 = some (.getfield 31, 3, [10, 12, 0, 1346]) := by decide +kernel
theorem f_147_417 : mFetch 147 417 = some (.iload_n 3, 1, []) := by decide +kernel
theorem f_147_418 : mFetch 147 418 = some (.aaload, 1, []) := by decide +kernel
theorem f_147_419 : mFetch 147 419 = some (.iload 4, 2, []) := by decide +kernel
theorem f_147_421 : mFetch 147 421 = some (.iaload, 1, []) := by decide +kernel
theorem f_147_422 : mFetch 147 422 = some (.if_icmp .eq 5, 3, [427]) := by decide +kernel
theorem f_147_425 : mFetch 147 425 = some (.iconst 0, 1, []) := by decide +kernel
theorem f_147_426 : mFetch 147 426 = some (.ireturn, 1, [2]) := by decide +kernel
theorem f_147_427 : mFetch 147 427 = some (.iinc 4 1, 3, []) := by decide +kernel
theorem f_147_430 : mFetch 147 430 = some (.goto (-31), 3, [399]) := by decide +kernel
theorem f_147_433 : mFetch 147 433 = some (.aload_n 1, 1, []) := by decide +kernel
theorem f_147_434 : mFetch 147 434 = some (.iload_n 3, 1, []) := by decide +kernel
theorem f_147_435 : mFetch 147 435 = some (.bipush 8, 2, []) := by decide +kernel
theorem f_147_437 : mFetch 147 437 = some (.invokevirtual 159, 3, [103, 3, 2, 9, 917, 606, 607]) := by decide +kernel
theorem f_147_440 : mFetch 147 440 = some (.aload_n 0, 1, []) := by decide +kernel
theorem f_147_441 : mFetch 147 441 = some (.iload_n 3, 1, []) := by decide +kernel
theorem f_147_442 : mFetch 147 442 = some (.invokevirtual 162, 3, [133, 2, 2, 10, 918, 919, 920]) := by decide +kernel
theorem f_147_445 : mFetch 147 445 = some (.if_icmp .eq 5, 3, [450]) := by decide +kernel
theorem f_147_448 : mFetch 147 448 = some (.iconst 0, 1, []) := by decide +kernel
theorem f_147_449 : mFetch 147 449 = some (.ireturn, 1, [2]) := by decide +kernel
theorem f_147_450 : mFetch 147 450 = some (.iconst 0, 1, []) := by decide +kernel
theorem f_147_451 : mFetch 147 451 = some (.istore 4, 2, []) := by decide +kernel
theorem f_147_453 : mFetch 147 453 = some (.iload 4, 2, []) := by decide +kernel
theorem f_147_455 : mFetch 147 455 = some (.aload_n 0, 1, []) := by decide +kernel
theorem f_147_456 : mFetch 147 456 = some (.getfield 17, 3, [10, 8, 0, 1338]) := by decide +kernel
theorem f_147_459 : mFetch 147 459 = some (.arraylength, 1, []) := by decide +kernel
theorem f_147_460 : mFetch 147 460 = some (.if_icmp .ge 30, 3, [490]) := by decide +kernel
theorem f_147_463 : mFetch 147 463 = some (.aload_n 1, 1, []) := by decide +kernel
theorem f_147_464 : mFetch 147 464 = some (.iload_n 3, 1, []) := by decide +kernel
theorem f_147_465 : mFetch 147 465 = some (.iload 4, 2, []) := by decide +kernel
theorem f_147_467 : mFetch 147 467 = some (.invokevirtual 165, 3, [104, 3, 2, 9, 923, 924, 925]) := by decide +kernel
theorem f_147_470 : mFetch 147 470 = some (.aload_n 0, 1, []) := by decide +kernel
theorem f_147_471 : mFetch 147 471 = some (.getfield 34, 3, [10, 13, 0, 1348]) := by decide +kernel
theorem f_147_474 : mFetch 147 474 = some (.iload_n 3, 1, []) := by decide +kernel
theorem f_147_475 : mFetch 147 475 = some (.aaload, 1, []) := by decide +kernel
theorem f_147_476 : mFetch 147 476 = some (.iload 4, 2, []) := by decide +kernel
theorem f_147_478 : mFetch 147 478 = some (.iaload, 1, []) := by decide +kernel
theorem f_147_479 : mFetch 147 479 = some (.if_icmp .eq 5, 3, [484]) := by decide +kernel
theorem f_147_482 : mFetch 147 482 = some (.iconst 0, 1, []) := by decide +kernel
theorem f_147_483 : mFetch 147 483 = some (.ireturn, 1, [2]) := by decide +kernel
theorem f_147_484 : mFetch 147 484 = some (.iinc 4 1, 3, []) := by decide +kernel
theorem f_147_487 : mFetch 147 487 = some (.goto (-34), 3, [453]) := by decide +kernel
theorem f_147_490 : mFetch 147 490 = some (.iconst 0, 1, []) := by decide +kernel
theorem f_147_491 : mFetch 147 491 = some (.istore 4, 2, []) := by decide +kernel
theorem f_147_493 : mFetch 147 493 = some (.iload 4, 2, []) := by decide +kernel
theorem f_147_495 : mFetch 147 495 = some (.aload_n 0, 1, []) := by decide +kernel
theorem f_147_496 : mFetch 147 496 = some (.getfield 21, 3, [10, 9, 0, 1340]) := by decide +kernel
theorem f_147_499 : mFetch 147 499 = some (.arraylength, 1, []) := by decide +kernel
theorem f_147_500 : mFetch 147 500 = some (.if_icmp .ge 30, 3, [530]) := by decide +kernel
theorem f_147_503 : mFetch 147 503 = some (.aload_n 1, 1, []) := by decide +kernel
theorem f_147_504 : mFetch 147 504 = some (.iload_n 3, 1, []) := by decide +kernel
theorem f_147_505 : mFetch 147 505 = some (.iload 4, 2, []) := by decide +kernel
theorem f_147_507 : mFetch 147 507 = some (.invokevirtual 167, 3, [105, 3, 2, 9, 928, 624, 625]) := by decide +kernel
theorem f_147_510 : mFetch 147 510 = some (.aload_n 0, 1, []) := by decide +kernel
theorem f_147_511 : mFetch 147 511 = some (.getfield 37, 3, [10, 14, 0, 1350]) := by decide +kernel
theorem f_147_514 : mFetch 147 514 = some (.iload_n 3, 1, []) := by decide +kernel
theorem f_147_515 : mFetch 147 515 = some (.aaload, 1, []) := by decide +kernel
theorem f_147_516 : mFetch 147 516 = some (.iload 4, 2, []) := by decide +kernel
theorem f_147_518 : mFetch 147 518 = some (.iaload, 1, []) := by decide +kernel
theorem f_147_519 : mFetch 147 519 = some (.if_icmp .eq 5, 3, [524]) := by decide +kernel
theorem f_147_522 : mFetch 147 522 = some (.iconst 0, 1, []) := by decide +kernel
theorem f_147_523 : mFetch 147 523 = some (.ireturn, 1, [2]) := by decide +kernel
theorem f_147_524 : mFetch 147 524 = some (.iinc 4 1, 3, []) := by decide +kernel
theorem f_147_527 : mFetch 147 527 = some (.goto (-34), 3, [493]) := by decide +kernel
theorem f_147_530 : mFetch 147 530 = some (.iconst 0, 1, []) := by decide +kernel
theorem f_147_531 : mFetch 147 531 = some (.istore 4, 2, []) := by decide +kernel
theorem f_147_533 : mFetch 147 533 = some (.iload 4, 2, []) := by decide +kernel
theorem f_147_535 : mFetch 147 535 = some (.aload_n 0, 1, []) := by decide +kernel
theorem f_147_536 : mFetch 147 536 = some (.getfield 25, 3, [10, 10, 0, 1342]) := by decide +kernel
theorem f_147_539 : mFetch 147 539 = some (.arraylength, 1, []) := by decide +kernel
theorem f_147_540 : mFetch 147 540 = some (.if_icmp .ge 28, 3, [568]) := by decide +kernel
theorem f_147_543 : mFetch 147 543 = some (.aload_n 1, 1, []) := by decide +kernel
theorem f_147_544 : mFetch 147 544 = some (.iload_n 3, 1, []) := by decide +kernel
theorem f_147_545 : mFetch 147 545 = some (.iload 4, 2, []) := by decide +kernel
theorem f_147_547 : mFetch 147 547 = some (.invokevirtual 169, 3, [106, 3, 2, 9, 929, 629, 630]) := by decide +kernel
theorem f_147_550 : mFetch 147 550 = some (.aload_n 0, 1, []) := by decide +kernel
theorem f_147_551 : mFetch 147 551 = some (.iload_n 3, 1, []) := by decide +kernel
theorem f_147_552 : mFetch 147 552 = some (.iload 4, 2, []) := by decide +kernel
theorem f_147_554 : mFetch 147 554 = some (.invokevirtual 90, 3, [130, 3, 2, 10, 855, 856, 857]) := by decide +kernel
theorem f_147_557 : mFetch 147 557 = some (.if_icmp .eq 5, 3, [562]) := by decide +kernel
theorem f_147_560 : mFetch 147 560 = some (.iconst 0, 1, []) := by decide +kernel
theorem f_147_561 : mFetch 147 561 = some (.ireturn, 1, [2]) := by decide +kernel
theorem f_147_562 : mFetch 147 562 = some (.iinc 4 1, 3, []) := by decide +kernel
theorem f_147_565 : mFetch 147 565 = some (.goto (-32), 3, [533]) := by decide +kernel
theorem f_147_568 : mFetch 147 568 = some (.iload_n 2, 1, []) := by decide +kernel
theorem f_147_569 : mFetch 147 569 = some (.aload_n 0, 1, []) := by decide +kernel
theorem f_147_570 : mFetch 147 570 = some (.getfield 31, 3, [10, 12, 0, 1346]) := by decide +kernel
theorem f_147_573 : mFetch 147 573 = some (.iload_n 3, 1, []) := by decide +kernel
theorem f_147_574 : mFetch 147 574 = some (.aaload, 1, []) := by decide +kernel
theorem f_147_575 : mFetch 147 575 = some (.iconst 1, 1, []) := by decide +kernel
theorem f_147_576 : mFetch 147 576 = some (.iaload, 1, []) := by decide +kernel
theorem f_147_577 : mFetch 147 577 = some (.iadd, 1, []) := by decide +kernel
theorem f_147_578 : mFetch 147 578 = some (.istore_n 2, 1, []) := by decide +kernel
theorem f_147_579 : mFetch 147 579 = some (.iinc 3 1, 3, []) := by decide +kernel
theorem f_147_582 : mFetch 147 582 = some (.goto (-195), 3, [387]) := by decide +kernel
theorem f_147_585 : mFetch 147 585 = some (.aload_n 1, 1, []) := by decide +kernel
theorem f_147_586 : mFetch 147 586 = some (.invokevirtual 170, 3, [116, 1, 2, 9, 930, 931, 932]) := by decide +kernel
theorem f_147_589 : mFetch 147 589 = some (.aload_n 0, 1, []) := by decide +kernel
theorem f_147_590 : mFetch 147 590 = some (.getfield 31, 3, [10, 12, 0, 1346]) := by decide +kernel
theorem f_147_593 : mFetch 147 593 = some (.arraylength, 1, []) := by decide +kernel
theorem f_147_594 : mFetch 147 594 = some (.ifCond .ne 7, 3, [601]) := by decide +kernel
theorem f_147_597 : mFetch 147 597 = some (.dconst 0, 1, []) := by decide +kernel
theorem f_147_598 : mFetch 147 598 = some (.goto 12, 3, [610]) := by decide +kernel
theorem f_147_601 : mFetch 147 601 = some (.iload_n 2, 1, []) := by decide +kernel
theorem f_147_602 : mFetch 147 602 = some (.i2d, 1, []) := by decide +kernel
theorem f_147_603 : mFetch 147 603 = some (.aload_n 0, 1, []) := by decide +kernel
theorem f_147_604 : mFetch 147 604 = some (.getfield 31, 3, [10, 12, 0, 1346]) := by decide +kernel
theorem f_147_607 : mFetch 147 607 = some (.arraylength, 1, []) := by decide +kernel
theorem f_147_608 : mFetch 147 608 = some (.i2d, 1, []) := by decide +kernel
theorem f_147_609 : mFetch 147 609 = some (.ddiv, 1, []) := by decide +kernel
theorem f_147_610 : mFetch 147 610 = some (.dcmp .l, 1, []) := by decide +kernel
theorem f_147_611 : mFetch 147 611 = some (.ifCond .ne 7, 3, [618]) := by decide +kernel
theorem f_147_614 : mFetch 147 614 = some (.iconst 1, 1, []) := by decide +kernel
theorem f_147_615 : mFetch 147 615 = some (.goto 4, 3, [619]) := by decide +kernel
theorem f_147_618 : mFetch 147 618 = some (.iconst 0, 1, []) := by decide +kernel
theorem f_147_619 : mFetch 147 619 = some (.ireturn, 1, [2]) := by decide +kernel
theorem lm_147_2 : mLvm 147 2 = 7 := by decide +kernel
theorem lm_147_8 : mLvm 147 8 = 7 := by decide +kernel
theorem lm_147_13 : mLvm 147 13 = 7 := by decide +kernel
theorem lm_147_23 : mLvm 147 23 = 7 := by decide +kernel
theorem lm_147_26 : mLvm 147 26 = 0 := by decide +kernel
theorem lm_147_28 : mLvm 147 28 = 7 := by decide +kernel
theorem lm_147_34 : mLvm 147 34 = 3 := by decide +kernel
theorem lm_147_36 : mLvm 147 36 = 7 := by decide +kernel
theorem lm_147_45 : mLvm 147 45 = 7 := by decide +kernel
theorem lm_147_61 : mLvm 147 61 = 127 := by decide +kernel
theorem lm_147_68 : mLvm 147 68 = 127 := by decide +kernel
theorem lm_147_90 : mLvm 147 90 = 3967 := by decide +kernel
theorem lm_147_97 : mLvm 147 97 = 3967 := by decide +kernel
theorem lm_147_112 : mLvm 147 112 = 3711 := by decide +kernel
theorem lm_147_116 : mLvm 147 116 = 3711 := by decide +kernel
theorem lm_147_117 : mLvm 147 117 = 3711 := by decide +kernel
theorem lm_147_126 : mLvm 147 126 = 383 := by decide +kernel
theorem lm_147_132 : mLvm 147 132 = 119 := by decide +kernel
theorem lm_147_136 : mLvm 147 136 = 119 := by decide +kernel
theorem lm_147_137 : mLvm 147 137 = 119 := by decide +kernel
theorem lm_147_145 : mLvm 147 145 = 15 := by decide +kernel
theorem lm_147_148 : mLvm 147 148 = 15 := by decide +kernel
theorem lm_147_159 : mLvm 147 159 = 15 := by decide +kernel
theorem lm_147_170 : mLvm 147 170 = 15 := by decide +kernel
theorem lm_147_181 : mLvm 147 181 = 15 := by decide +kernel
theorem lm_147_197 : mLvm 147 197 = 15 := by decide +kernel
theorem lm_147_201 : mLvm 147 201 = 7 := by decide +kernel
theorem lm_147_206 : mLvm 147 206 = 55 := by decide +kernel
theorem lm_147_212 : mLvm 147 212 = 55 := by decide +kernel
theorem lm_147_219 : mLvm 147 219 = 55 := by decide +kernel
theorem lm_147_227 : mLvm 147 227 = 0 := by decide +kernel
theorem lm_147_229 : mLvm 147 229 = 55 := by decide +kernel
theorem lm_147_235 : mLvm 147 235 = 7 := by decide +kernel
theorem lm_147_241 : mLvm 147 241 = 3 := by decide +kernel
theorem lm_147_243 : mLvm 147 243 = 7 := by decide +kernel
theorem lm_147_252 : mLvm 147 252 = 7 := by decide +kernel
theorem lm_147_255 : mLvm 147 255 = 7 := by decide +kernel
theorem lm_147_265 : mLvm 147 265 = 7 := by decide +kernel
theorem lm_147_272 : mLvm 147 272 = 7 := by decide +kernel
theorem lm_147_273 : mLvm 147 273 = 7 := by decide +kernel
theorem lm_147_280 : mLvm 147 280 = 7 := by decide +kernel
theorem lm_147_281 : mLvm 147 281 = 7 := by decide +kernel
theorem lm_147_292 : mLvm 147 292 = 7 := by decide +kernel
theorem lm_147_303 : mLvm 147 303 = 7 := by decide +kernel
theorem lm_147_307 : mLvm 147 307 = 31 := by decide +kernel
theorem lm_147_313 : mLvm 147 313 = 31 := by decide +kernel
theorem lm_147_320 : mLvm 147 320 = 31 := by decide +kernel
theorem lm_147_327 : mLvm 147 327 = 0 := by decide +kernel
theorem lm_147_329 : mLvm 147 329 = 31 := by decide +kernel
theorem lm_147_335 : mLvm 147 335 = 7 := by decide +kernel
theorem lm_147_338 : mLvm 147 338 = 23 := by decide +kernel
theorem lm_147_350 : mLvm 147 350 = 23 := by decide +kernel
theorem lm_147_357 : mLvm 147 357 = 23 := by decide +kernel
theorem lm_147_369 : mLvm 147 369 = 0 := by decide +kernel
theorem lm_147_371 : mLvm 147 371 = 23 := by decide +kernel
theorem lm_147_377 : mLvm 147 377 = 7 := by decide +kernel
theorem lm_147_383 : mLvm 147 383 = 3 := by decide +kernel
theorem lm_147_387 : mLvm 147 387 = 15 := by decide +kernel
theorem lm_147_396 : mLvm 147 396 = 15 := by decide +kernel
theorem lm_147_399 : mLvm 147 399 = 31 := by decide +kernel
theorem lm_147_406 : mLvm 147 406 = 31 := by decide +kernel
theorem lm_147_413 : mLvm 147 413 = 31 := by decide +kernel
theorem lm_147_425 : mLvm 147 425 = 0 := by decide +kernel
theorem lm_147_427 : mLvm 147 427 = 31 := by decide +kernel
theorem lm_147_433 : mLvm 147 433 = 15 := by decide +kernel
theorem lm_147_440 : mLvm 147 440 = 15 := by decide +kernel
theorem lm_147_445 : mLvm 147 445 = 15 := by decide +kernel
theorem lm_147_448 : mLvm 147 448 = 0 := by decide +kernel
theorem lm_147_450 : mLvm 147 450 = 15 := by decide +kernel
theorem lm_147_453 : mLvm 147 453 = 31 := by decide +kernel
theorem lm_147_463 : mLvm 147 463 = 31 := by decide +kernel
theorem lm_147_470 : mLvm 147 470 = 31 := by decide +kernel
theorem lm_147_482 : mLvm 147 482 = 0 := by decide +kernel
theorem lm_147_484 : mLvm 147 484 = 31 := by decide +kernel
theorem lm_147_490 : mLvm 147 490 = 15 := by decide +kernel
theorem lm_147_493 : mLvm 147 493 = 31 := by decide +kernel
theorem lm_147_503 : mLvm 147 503 = 31 := by decide +kernel
theorem lm_147_510 : mLvm 147 510 = 31 := by decide +kernel
theorem lm_147_522 : mLvm 147 522 = 0 := by decide +kernel
theorem lm_147_524 : mLvm 147 524 = 31 := by decide +kernel
theorem lm_147_530 : mLvm 147 530 = 15 := by decide +kernel
theorem lm_147_533 : mLvm 147 533 = 31 := by decide +kernel
theorem lm_147_543 : mLvm 147 543 = 31 := by decide +kernel
theorem lm_147_550 : mLvm 147 550 = 31 := by decide +kernel
theorem lm_147_557 : mLvm 147 557 = 31 := by decide +kernel
theorem lm_147_560 : mLvm 147 560 = 0 := by decide +kernel
theorem lm_147_562 : mLvm 147 562 = 31 := by decide +kernel
theorem lm_147_568 : mLvm 147 568 = 15 := by decide +kernel
theorem lm_147_585 : mLvm 147 585 = 7 := by decide +kernel
theorem lm_147_589 : mLvm 147 589 = 5 := by decide +kernel
theorem lm_147_597 : mLvm 147 597 = 0 := by decide +kernel
theorem lm_147_601 : mLvm 147 601 = 5 := by decide +kernel
theorem lm_147_610 : mLvm 147 610 = 0 := by decide +kernel
theorem lm_147_614 : mLvm 147 614 = 0 := by decide +kernel
theorem lm_147_618 : mLvm 147 618 = 0 := by decide +kernel
theorem lm_147_619 : mLvm 147 619 = 0 := by decide +kernel
theorem b_147_0 {d : Nat} {a0 : Nat} {a1 : Nat} {w : MW} : mX d 147 0 [.ref a0, .ref a1, mJ, mJ, mJ, mJ, mJ, mJ, mJ, mJ, mJ, mJ, mJ] [] w = mX d 147 2 [.ref a0, .ref a1, .int (nI 0), mJ, mJ, mJ, mJ, mJ, mJ, mJ, mJ, mJ, mJ] [] w := by
  refine Eq.trans (X_iconst f_147_0 kc_i_0) ?_
  refine Eq.trans (X_istore_n (L' := [.ref a0, .ref a1, .int (nI 0), mJ, mJ, mJ, mJ, mJ, mJ, mJ, mJ, mJ, mJ]) f_147_1 (Nat.le_of_ble_eq_true rfl) rfl) ?_
  exact mX_maskK lm_147_2 rfl
theorem e_147 {d : Nat} {a0 : Nat} {a1 : Nat} {w : MW} : mK d 147 [.ref a0, .ref a1] w = mX d 147 0 [.ref a0, .ref a1, mJ, mJ, mJ, mJ, mJ, mJ, mJ, mJ, mJ, mJ, mJ] [] w := rfl
theorem b_147_2 {d : Nat} {a0 : Nat} {a1 : Nat} {x2 : Int32} {w : MW} : mX d 147 2 [.ref a0, .ref a1, .int x2, mJ, mJ, mJ, mJ, mJ, mJ, mJ, mJ, mJ, mJ] [] w = (if (nI 18) ≤ x2 then mX d 147 34 [.ref a0, .ref a1, mJ, mJ, mJ, mJ, mJ, mJ, mJ, mJ, mJ, mJ, mJ] [] w else mX d 147 8 [.ref a0, .ref a1, .int x2, mJ, mJ, mJ, mJ, mJ, mJ, mJ, mJ, mJ, mJ] [] w) := by
  refine Eq.trans (X_st f_147_2 rfl rfl) ?_
  refine Eq.trans (X_bipush f_147_3 kc_b_18) ?_
  refine Eq.trans (X_br f_147_5 rfl rfl) ?_
  exact mIte_eq (mX_maskK lm_147_34 rfl) (mX_maskK lm_147_8 rfl)
theorem b_147_8 {d : Nat} {a0 : Nat} {a1 : Nat} {x2 : Int32} {w : MW} (h0 : mTg w a1 = 9) : mX (d + 1) 147 8 [.ref a0, .ref a1, .int x2, mJ, mJ, mJ, mJ, mJ, mJ, mJ, mJ, mJ, mJ] [] w = mThen (mK d 99 [.ref a1, .int x2] w) (fun v w9 => mX (d + 1) 147 13 [.ref a0, .ref a1, .int x2, mJ, mJ, mJ, mJ, mJ, mJ, mJ, mJ, mJ, mJ] (v.toList ++ []) w9) := by
  refine Eq.trans (X_st f_147_8 rfl rfl) ?_
  refine Eq.trans (X_st f_147_9 rfl rfl) ?_
  refine Eq.trans (X_call f_147_10 (by decide) rfl rfl rfl rfl rfl rfl (Nat.le_of_ble_eq_true rfl) (Nat.le_of_ble_eq_true rfl) (decide_eq_true h0) (Nat.le_of_ble_eq_true rfl)) ?_
  exact mThen_eq fun v w9 => mX_maskK lm_147_13 rfl
theorem b_147_13 {d : Nat} {a0 : Nat} {a1 : Nat} {x2 : Int32} {y0 : Int32} {w : MW} (h0 : mTg w a0 = 10) (h1 : mR w a0 8 = some (gR w a0 8)) (h2 : 50 ≤ mTg w (gR w a0 8) ∧ mTg w (gR w a0 8) < 55) : mX (d + 1) 147 13 [.ref a0, .ref a1, .int x2, mJ, mJ, mJ, mJ, mJ, mJ, mJ, mJ, mJ, mJ] [.int y0] w = mThen (mK d 146 [.ref a0, .int x2, .int (nI (mLn w (gR w a0 8)))] w) (fun v w9 => mX (d + 1) 147 23 [.ref a0, .ref a1, .int x2, mJ, mJ, mJ, mJ, mJ, mJ, mJ, mJ, mJ, mJ] (v.toList ++ [.int y0]) w9) := by
  refine Eq.trans (X_st f_147_13 rfl rfl) ?_
  refine Eq.trans (X_st f_147_14 rfl rfl) ?_
  refine Eq.trans (X_st f_147_15 rfl rfl) ?_
  refine Eq.trans (X_getR f_147_16 h0 rfl h1) ?_
  refine Eq.trans (X_st f_147_19 rfl (if_pos h2)) ?_
  refine Eq.trans (X_call f_147_20 (by decide) rfl rfl rfl rfl rfl rfl (Nat.le_of_ble_eq_true rfl) (Nat.le_of_ble_eq_true rfl) (decide_eq_true h0) (Nat.le_of_ble_eq_true rfl)) ?_
  exact mThen_eq fun v w9 => mX_maskK lm_147_23 rfl
theorem b_147_23 {d : Nat} {a0 : Nat} {a1 : Nat} {x2 : Int32} {y0 : Int32} {y1 : Int32} {w : MW} : mX d 147 23 [.ref a0, .ref a1, .int x2, mJ, mJ, mJ, mJ, mJ, mJ, mJ, mJ, mJ, mJ] [.int y0, .int y1] w = (if y1 = y0 then mX d 147 28 [.ref a0, .ref a1, .int x2, mJ, mJ, mJ, mJ, mJ, mJ, mJ, mJ, mJ, mJ] [] w else mX d 147 26 [mJ, mJ, mJ, mJ, mJ, mJ, mJ, mJ, mJ, mJ, mJ, mJ, mJ] [] w) := by
  refine Eq.trans (X_br f_147_23 rfl rfl) ?_
  exact mIte_eq (mX_maskK lm_147_28 rfl) (mX_maskK lm_147_26 rfl)
theorem b_147_26 {d : Nat} {w : MW} : mX d 147 26 [mJ, mJ, mJ, mJ, mJ, mJ, mJ, mJ, mJ, mJ, mJ, mJ, mJ] [] w = some (.inl (some (.int (nI 0))), w) := by
  refine Eq.trans (X_iconst f_147_26 kc_i_0) ?_
  exact X_ireturn f_147_27 rfl
theorem b_147_28 {d : Nat} {a0 : Nat} {a1 : Nat} {x2 : Int32} {w : MW} : mX d 147 28 [.ref a0, .ref a1, .int x2, mJ, mJ, mJ, mJ, mJ, mJ, mJ, mJ, mJ, mJ] [] w = mX d 147 2 [.ref a0, .ref a1, .int (x2 + (nI 1)), mJ, mJ, mJ, mJ, mJ, mJ, mJ, mJ, mJ, mJ] [] w := by
  refine Eq.trans (X_iinc f_147_28 kc_i_1 rfl rfl) ?_
  refine Eq.trans (X_st f_147_31 rfl rfl) ?_
  exact mX_maskK lm_147_2 rfl
theorem b_147_34 {d : Nat} {a0 : Nat} {a1 : Nat} {w : MW} : mX d 147 34 [.ref a0, .ref a1, mJ, mJ, mJ, mJ, mJ, mJ, mJ, mJ, mJ, mJ, mJ] [] w = mX d 147 36 [.ref a0, .ref a1, .int (nI 0), mJ, mJ, mJ, mJ, mJ, mJ, mJ, mJ, mJ, mJ] [] w := by
  refine Eq.trans (X_iconst f_147_34 kc_i_0) ?_
  refine Eq.trans (X_istore_n (L' := [.ref a0, .ref a1, .int (nI 0), mJ, mJ, mJ, mJ, mJ, mJ, mJ, mJ, mJ, mJ]) f_147_35 (Nat.le_of_ble_eq_true rfl) rfl) ?_
  exact mX_maskK lm_147_36 rfl
theorem b_147_36 {d : Nat} {a0 : Nat} {a1 : Nat} {x2 : Int32} {w : MW} (h0 : mTg w a0 = 10) (h1 : mR w a0 9 = some (gR w a0 9)) (h2 : 50 ≤ mTg w (gR w a0 9) ∧ mTg w (gR w a0 9) < 55) : mX d 147 36 [.ref a0, .ref a1, .int x2, mJ, mJ, mJ, mJ, mJ, mJ, mJ, mJ, mJ, mJ] [] w = (if (nI (mLn w (gR w a0 9))) ≤ x2 then mX d 147 241 [.ref a0, .ref a1, mJ, mJ, mJ, mJ, mJ, mJ, mJ, mJ, mJ, mJ, mJ] [] w else mX d 147 45 [.ref a0, .ref a1, .int x2, mJ, mJ, mJ, mJ, mJ, mJ, mJ, mJ, mJ, mJ] [] w) := by
  refine Eq.trans (X_st f_147_36 rfl rfl) ?_
  refine Eq.trans (X_st f_147_37 rfl rfl) ?_
  refine Eq.trans (X_getR f_147_38 h0 rfl h1) ?_
  refine Eq.trans (X_st f_147_41 rfl (if_pos h2)) ?_
  refine Eq.trans (X_br f_147_42 rfl rfl) ?_
  exact mIte_eq (mX_maskK lm_147_241 rfl) (mX_maskK lm_147_45 rfl)
theorem b_147_45 {d : Nat} {a0 : Nat} {a1 : Nat} {x2 : Int32} {w : MW} (h0 : mTg w a0 = 10) (h1 : mR w a0 10 = some (gR w a0 10)) (h2 : 50 ≤ mTg w (gR w a0 10) ∧ mTg w (gR w a0 10) < 55) : mX d 147 45 [.ref a0, .ref a1, .int x2, mJ, mJ, mJ, mJ, mJ, mJ, mJ, mJ, mJ, mJ] [] w = mX d 147 61 [.ref a0, .ref a1, .int x2, .int (nI 0), .ref (gR w a0 10), .int (nI (mLn w (gR w a0 10))), .int (nI 0), mJ, mJ, mJ, mJ, mJ, mJ] [] w := by
  refine Eq.trans (X_iconst f_147_45 kc_i_0) ?_
  refine Eq.trans (X_istore_n (L' := [.ref a0, .ref a1, .int x2, .int (nI 0), mJ, mJ, mJ, mJ, mJ, mJ, mJ, mJ, mJ]) f_147_46 (Nat.le_of_ble_eq_true rfl) rfl) ?_
  refine Eq.trans (X_st f_147_47 rfl rfl) ?_
  refine Eq.trans (X_getR f_147_48 h0 rfl h1) ?_
  refine Eq.trans (X_astore (L' := [.ref a0, .ref a1, .int x2, .int (nI 0), .ref (gR w a0 10), mJ, mJ, mJ, mJ, mJ, mJ, mJ, mJ]) f_147_51 (Nat.le_of_ble_eq_true rfl) rfl) ?_
  refine Eq.trans (X_st f_147_53 rfl rfl) ?_
  refine Eq.trans (X_st f_147_55 rfl (if_pos h2)) ?_
  refine Eq.trans (X_istore (L' := [.ref a0, .ref a1, .int x2, .int (nI 0), .ref (gR w a0 10), .int (nI (mLn w (gR w a0 10))), mJ, mJ, mJ, mJ, mJ, mJ, mJ]) f_147_56 (Nat.le_of_ble_eq_true rfl) rfl) ?_
  refine Eq.trans (X_iconst f_147_58 kc_i_0) ?_
  refine Eq.trans (X_istore (L' := [.ref a0, .ref a1, .int x2, .int (nI 0), .ref (gR w a0 10), .int (nI (mLn w (gR w a0 10))), .int (nI 0), mJ, mJ, mJ, mJ, mJ, mJ]) f_147_59 (Nat.le_of_ble_eq_true rfl) rfl) ?_
  exact mX_maskK lm_147_61 rfl
theorem b_147_61 {d : Nat} {a0 : Nat} {a1 : Nat} {x2 : Int32} {x3 : Int32} {a4 : Nat} {x5 : Int32} {x6 : Int32} {w : MW} : mX d 147 61 [.ref a0, .ref a1, .int x2, .int x3, .ref a4, .int x5, .int x6, mJ, mJ, mJ, mJ, mJ, mJ] [] w = (if x5 ≤ x6 then mX d 147 145 [.ref a0, .ref a1, .int x2, .int x3, mJ, mJ, mJ, mJ, mJ, mJ, mJ, mJ, mJ] [] w else mX d 147 68 [.ref a0, .ref a1, .int x2, .int x3, .ref a4, .int x5, .int x6, mJ, mJ, mJ, mJ, mJ, mJ] [] w) := by
  refine Eq.trans (X_st f_147_61 rfl rfl) ?_
  refine Eq.trans (X_st f_147_63 rfl rfl) ?_
  refine Eq.trans (X_br f_147_65 rfl rfl) ?_
  exact mIte_eq (mX_maskK lm_147_145 rfl) (mX_maskK lm_147_68 rfl)
theorem b_147_68 {d : Nat} {a0 : Nat} {a1 : Nat} {x2 : Int32} {x3 : Int32} {a4 : Nat} {x5 : Int32} {x6 : Nat} {w : MW} (h0 : 52 ≤ mTg w a4 ∧ mTg w a4 < 55) (h1 : x6 < 2147483648) (h2 : x6 < mLn w a4) (h3 : mR w a4 x6 = some (gR w a4 x6)) (h4 : 50 ≤ mTg w (gR w a4 x6) ∧ mTg w (gR w a4 x6) < 55) : mX d 147 68 [.ref a0, .ref a1, .int x2, .int x3, .ref a4, .int x5, .int (nI x6), mJ, mJ, mJ, mJ, mJ, mJ] [] w = mX d 147 90 [.ref a0, .ref a1, .int x2, .int x3, .ref a4, .int x5, .int (nI x6), mJ, .int (nI 0), .ref (gR w a4 x6), .int (nI (mLn w (gR w a4 x6))), .int (nI 0), mJ] [] w := by
  refine Eq.trans (X_st f_147_68 rfl rfl) ?_
  refine Eq.trans (X_st f_147_70 rfl rfl) ?_
  refine Eq.trans (X_aald f_147_72 h0 (jnn h1) (jcl h1) h2 h3) ?_
  refine Eq.trans (X_astore (L' := [.ref a0, .ref a1, .int x2, .int x3, .ref a4, .int x5, .int (nI x6), .ref (gR w a4 x6), mJ, mJ, mJ, mJ, mJ]) f_147_73 (Nat.le_of_ble_eq_true rfl) rfl) ?_
  refine Eq.trans (X_iconst f_147_75 kc_i_0) ?_
  refine Eq.trans (X_istore (L' := [.ref a0, .ref a1, .int x2, .int x3, .ref a4, .int x5, .int (nI x6), .ref (gR w a4 x6), .int (nI 0), mJ, mJ, mJ, mJ]) f_147_76 (Nat.le_of_ble_eq_true rfl) rfl) ?_
  refine Eq.trans (X_st f_147_78 rfl rfl) ?_
  refine Eq.trans (X_astore (L' := [.ref a0, .ref a1, .int x2, .int x3, .ref a4, .int x5, .int (nI x6), .ref (gR w a4 x6), .int (nI 0), .ref (gR w a4 x6), mJ, mJ, mJ]) f_147_80 (Nat.le_of_ble_eq_true rfl) rfl) ?_
  refine Eq.trans (X_st f_147_82 rfl rfl) ?_
  refine Eq.trans (X_st f_147_84 rfl (if_pos h4)) ?_
  refine Eq.trans (X_istore (L' := [.ref a0, .ref a1, .int x2, .int x3, .ref a4, .int x5, .int (nI x6), .ref (gR w a4 x6), .int (nI 0), .ref (gR w a4 x6), .int (nI (mLn w (gR w a4 x6))), mJ, mJ]) f_147_85 (Nat.le_of_ble_eq_true rfl) rfl) ?_
  refine Eq.trans (X_iconst f_147_87 kc_i_0) ?_
  refine Eq.trans (X_istore (L' := [.ref a0, .ref a1, .int x2, .int x3, .ref a4, .int x5, .int (nI x6), .ref (gR w a4 x6), .int (nI 0), .ref (gR w a4 x6), .int (nI (mLn w (gR w a4 x6))), .int (nI 0), mJ]) f_147_88 (Nat.le_of_ble_eq_true rfl) rfl) ?_
  exact mX_maskK lm_147_90 rfl
theorem b_147_90 {d : Nat} {a0 : Nat} {a1 : Nat} {x2 : Int32} {x3 : Int32} {a4 : Nat} {x5 : Int32} {x6 : Int32} {x8 : Int32} {a9 : Nat} {x10 : Int32} {x11 : Int32} {w : MW} : mX d 147 90 [.ref a0, .ref a1, .int x2, .int x3, .ref a4, .int x5, .int x6, mJ, .int x8, .ref a9, .int x10, .int x11, mJ] [] w = (if x10 ≤ x11 then mX d 147 126 [.ref a0, .ref a1, .int x2, .int x3, .ref a4, .int x5, .int x6, mJ, .int x8, mJ, mJ, mJ, mJ] [] w else mX d 147 97 [.ref a0, .ref a1, .int x2, .int x3, .ref a4, .int x5, .int x6, mJ, .int x8, .ref a9, .int x10, .int x11, mJ] [] w) := by
  refine Eq.trans (X_st f_147_90 rfl rfl) ?_
  refine Eq.trans (X_st f_147_92 rfl rfl) ?_
  refine Eq.trans (X_br f_147_94 rfl rfl) ?_
  exact mIte_eq (mX_maskK lm_147_126 rfl) (mX_maskK lm_147_97 rfl)
theorem b_147_97 {d : Nat} {a0 : Nat} {a1 : Nat} {x2 : Int32} {x3 : Int32} {a4 : Nat} {x5 : Int32} {x6 : Int32} {x8 : Int32} {a9 : Nat} {x10 : Int32} {x11 : Nat} {w : MW} (h0 : mTg w a9 = 50) (h1 : x11 < 2147483648) (h2 : x11 < mLn w a9) : mX d 147 97 [.ref a0, .ref a1, .int x2, .int x3, .ref a4, .int x5, .int x6, mJ, .int x8, .ref a9, .int x10, .int (nI x11), mJ] [] w = (if ¬ (mI w a9 x11) = x2 then mX d 147 116 [.ref a0, .ref a1, .int x2, .int x3, .ref a4, .int x5, .int x6, mJ, mJ, .ref a9, .int x10, .int (nI x11), mJ] [.int x8] w else mX d 147 112 [.ref a0, .ref a1, .int x2, .int x3, .ref a4, .int x5, .int x6, mJ, mJ, .ref a9, .int x10, .int (nI x11), mJ] [.int x8] w) := by
  refine Eq.trans (X_st f_147_97 rfl rfl) ?_
  refine Eq.trans (X_st f_147_99 rfl rfl) ?_
  refine Eq.trans (X_iald f_147_101 h0 (jnn h1) (jcl h1) h2) ?_
  refine Eq.trans (X_istore (L' := [.ref a0, .ref a1, .int x2, .int x3, .ref a4, .int x5, .int x6, mJ, .int x8, .ref a9, .int x10, .int (nI x11), .int (mI w a9 x11)]) f_147_102 (Nat.le_of_ble_eq_true rfl) rfl) ?_
  refine Eq.trans (X_st f_147_104 rfl rfl) ?_
  refine Eq.trans (X_st f_147_106 rfl rfl) ?_
  refine Eq.trans (X_st f_147_108 rfl rfl) ?_
  refine Eq.trans (X_br f_147_109 rfl rfl) ?_
  exact mIte_eq (mX_maskK lm_147_116 rfl) (mX_maskK lm_147_112 rfl)
theorem b_147_112 {d : Nat} {a0 : Nat} {a1 : Nat} {x2 : Int32} {x3 : Int32} {a4 : Nat} {x5 : Int32} {x6 : Int32} {a9 : Nat} {x10 : Int32} {x11 : Int32} {y0 : Int32} {w : MW} : mX d 147 112 [.ref a0, .ref a1, .int x2, .int x3, .ref a4, .int x5, .int x6, mJ, mJ, .ref a9, .int x10, .int x11, mJ] [.int y0] w = mX d 147 117 [.ref a0, .ref a1, .int x2, .int x3, .ref a4, .int x5, .int x6, mJ, mJ, .ref a9, .int x10, .int x11, mJ] [.int (nI 1), .int y0] w := by
  refine Eq.trans (X_iconst f_147_112 kc_i_1) ?_
  refine Eq.trans (X_st f_147_113 rfl rfl) ?_
  exact mX_maskK lm_147_117 rfl
theorem b_147_116 {d : Nat} {a0 : Nat} {a1 : Nat} {x2 : Int32} {x3 : Int32} {a4 : Nat} {x5 : Int32} {x6 : Int32} {a9 : Nat} {x10 : Int32} {x11 : Int32} {y0 : Int32} {w : MW} : mX d 147 116 [.ref a0, .ref a1, .int x2, .int x3, .ref a4, .int x5, .int x6, mJ, mJ, .ref a9, .int x10, .int x11, mJ] [.int y0] w = mX d 147 117 [.ref a0, .ref a1, .int x2, .int x3, .ref a4, .int x5, .int x6, mJ, mJ, .ref a9, .int x10, .int x11, mJ] [.int (nI 0), .int y0] w := by
  refine Eq.trans (X_iconst f_147_116 kc_i_0) ?_
  exact mX_maskK lm_147_117 rfl
theorem b_147_117 {d : Nat} {a0 : Nat} {a1 : Nat} {x2 : Int32} {x3 : Int32} {a4 : Nat} {x5 : Int32} {x6 : Int32} {a9 : Nat} {x10 : Int32} {x11 : Int32} {y0 : Int32} {y1 : Int32} {w : MW} : mX d 147 117 [.ref a0, .ref a1, .int x2, .int x3, .ref a4, .int x5, .int x6, mJ, mJ, .ref a9, .int x10, .int x11, mJ] [.int y0, .int y1] w = mX d 147 90 [.ref a0, .ref a1, .int x2, .int x3, .ref a4, .int x5, .int x6, mJ, .int (y1 ||| y0), .ref a9, .int x10, .int (x11 + (nI 1)), mJ] [] w := by
  refine Eq.trans (X_st f_147_117 rfl rfl) ?_
  refine Eq.trans (X_istore (L' := [.ref a0, .ref a1, .int x2, .int x3, .ref a4, .int x5, .int x6, mJ, .int (y1 ||| y0), .ref a9, .int x10, .int x11, mJ]) f_147_118 (Nat.le_of_ble_eq_true rfl) rfl) ?_
  refine Eq.trans (X_iinc f_147_120 kc_i_1 rfl rfl) ?_
  refine Eq.trans (X_st f_147_123 rfl rfl) ?_
  exact mX_maskK lm_147_90 rfl
theorem b_147_126 {d : Nat} {a0 : Nat} {a1 : Nat} {x2 : Int32} {x3 : Int32} {a4 : Nat} {x5 : Int32} {x6 : Int32} {x8 : Int32} {w : MW} : mX d 147 126 [.ref a0, .ref a1, .int x2, .int x3, .ref a4, .int x5, .int x6, mJ, .int x8, mJ, mJ, mJ, mJ] [] w = (if x8 = nI 0 then mX d 147 136 [.ref a0, .ref a1, .int x2, mJ, .ref a4, .int x5, .int x6, mJ, mJ, mJ, mJ, mJ, mJ] [.int x3] w else mX d 147 132 [.ref a0, .ref a1, .int x2, mJ, .ref a4, .int x5, .int x6, mJ, mJ, mJ, mJ, mJ, mJ] [.int x3] w) := by
  refine Eq.trans (X_st f_147_126 rfl rfl) ?_
  refine Eq.trans (X_st f_147_127 rfl rfl) ?_
  refine Eq.trans (X_br f_147_129 rfl rfl) ?_
  exact mIte_eq (mX_maskK lm_147_136 rfl) (mX_maskK lm_147_132 rfl)
theorem b_147_132 {d : Nat} {a0 : Nat} {a1 : Nat} {x2 : Int32} {a4 : Nat} {x5 : Int32} {x6 : Int32} {y0 : Int32} {w : MW} : mX d 147 132 [.ref a0, .ref a1, .int x2, mJ, .ref a4, .int x5, .int x6, mJ, mJ, mJ, mJ, mJ, mJ] [.int y0] w = mX d 147 137 [.ref a0, .ref a1, .int x2, mJ, .ref a4, .int x5, .int x6, mJ, mJ, mJ, mJ, mJ, mJ] [.int (nI 1), .int y0] w := by
  refine Eq.trans (X_iconst f_147_132 kc_i_1) ?_
  refine Eq.trans (X_st f_147_133 rfl rfl) ?_
  exact mX_maskK lm_147_137 rfl
theorem b_147_136 {d : Nat} {a0 : Nat} {a1 : Nat} {x2 : Int32} {a4 : Nat} {x5 : Int32} {x6 : Int32} {y0 : Int32} {w : MW} : mX d 147 136 [.ref a0, .ref a1, .int x2, mJ, .ref a4, .int x5, .int x6, mJ, mJ, mJ, mJ, mJ, mJ] [.int y0] w = mX d 147 137 [.ref a0, .ref a1, .int x2, mJ, .ref a4, .int x5, .int x6, mJ, mJ, mJ, mJ, mJ, mJ] [.int (nI 0), .int y0] w := by
  refine Eq.trans (X_iconst f_147_136 kc_i_0) ?_
  exact mX_maskK lm_147_137 rfl
theorem b_147_137 {d : Nat} {a0 : Nat} {a1 : Nat} {x2 : Int32} {a4 : Nat} {x5 : Int32} {x6 : Int32} {y0 : Int32} {y1 : Int32} {w : MW} : mX d 147 137 [.ref a0, .ref a1, .int x2, mJ, .ref a4, .int x5, .int x6, mJ, mJ, mJ, mJ, mJ, mJ] [.int y0, .int y1] w = mX d 147 61 [.ref a0, .ref a1, .int x2, .int (y1 + y0), .ref a4, .int x5, .int (x6 + (nI 1)), mJ, mJ, mJ, mJ, mJ, mJ] [] w := by
  refine Eq.trans (X_st f_147_137 rfl rfl) ?_
  refine Eq.trans (X_istore_n (L' := [.ref a0, .ref a1, .int x2, .int (y1 + y0), .ref a4, .int x5, .int x6, mJ, mJ, mJ, mJ, mJ, mJ]) f_147_138 (Nat.le_of_ble_eq_true rfl) rfl) ?_
  refine Eq.trans (X_iinc f_147_139 kc_i_1 rfl rfl) ?_
  refine Eq.trans (X_st f_147_142 rfl rfl) ?_
  exact mX_maskK lm_147_61 rfl
theorem b_147_145 {d : Nat} {a0 : Nat} {a1 : Nat} {x2 : Int32} {x3 : Int32} {w : MW} : mX d 147 145 [.ref a0, .ref a1, .int x2, .int x3, mJ, mJ, mJ, mJ, mJ, mJ, mJ, mJ, mJ] [] w = mX d 147 148 [.ref a0, .ref a1, .int x2, .int x3, mJ, mJ, mJ, mJ, mJ, mJ, mJ, mJ, mJ] [.ref (mSz w)] (wN w 50 5 5) := by
  refine Eq.trans (X_iconst f_147_145 kc_i_5) ?_
  refine Eq.trans (X_newa f_147_146 kn_5 kl_5 (Nat.le_of_ble_eq_true rfl)) ?_
  exact mX_maskK lm_147_148 rfl
theorem b_147_148 {d : Nat} {a0 : Nat} {a1 : Nat} {x2 : Nat} {x3 : Int32} {b0 : Nat} {w : MW} (h0 : mTg w a0 = 10) (h1 : mR w a0 9 = some (gR w a0 9)) (h2 : 52 ≤ mTg w (gR w a0 9) ∧ mTg w (gR w a0 9) < 55) (h3 : x2 < 2147483648) (h4 : x2 < mLn w (gR w a0 9)) (h5 : mR w (gR w a0 9) x2 = some (gR w (gR w a0 9) x2)) (h6 : mTg w (gR w (gR w a0 9) x2) = 50) (h7 : 0 < mLn w (gR w (gR w a0 9) x2)) (h8 : mTg w b0 = 50) (h9 : mE ≤ b0) (h10 : 0 < mLn w b0) : mX d 147 148 [.ref a0, .ref a1, .int (nI x2), .int x3, mJ, mJ, mJ, mJ, mJ, mJ, mJ, mJ, mJ] [.ref b0] w = mX d 147 159 [.ref a0, .ref a1, .int (nI x2), .int x3, mJ, mJ, mJ, mJ, mJ, mJ, mJ, mJ, mJ] [.ref b0] (wI w b0 0 (mI w (gR w (gR w a0 9) x2) 0)) := by
  refine Eq.trans (X_dup f_147_148 rfl) ?_
  refine Eq.trans (X_iconst f_147_149 kc_i_0) ?_
  refine Eq.trans (X_st f_147_150 rfl rfl) ?_
  refine Eq.trans (X_getR f_147_151 h0 rfl h1) ?_
  refine Eq.trans (X_st f_147_154 rfl rfl) ?_
  refine Eq.trans (X_aald f_147_155 h2 (jnn h3) (jcl h3) h4 h5) ?_
  refine Eq.trans (X_iconst f_147_156 kc_i_0) ?_
  refine Eq.trans (X_iald f_147_157 h6 kn_0 kl_0 h7) ?_
  refine Eq.trans (X_iast f_147_158 h8 h9 kn_0 kl_0 h10) ?_
  exact mX_maskK lm_147_159 rfl
theorem b_147_159 {d : Nat} {a0 : Nat} {a1 : Nat} {x2 : Nat} {x3 : Int32} {b0 : Nat} {w : MW} (h0 : mTg w a0 = 10) (h1 : mR w a0 9 = some (gR w a0 9)) (h2 : 52 ≤ mTg w (gR w a0 9) ∧ mTg w (gR w a0 9) < 55) (h3 : x2 < 2147483648) (h4 : x2 < mLn w (gR w a0 9)) (h5 : mR w (gR w a0 9) x2 = some (gR w (gR w a0 9) x2)) (h6 : mTg w (gR w (gR w a0 9) x2) = 50) (h7 : 1 < mLn w (gR w (gR w a0 9) x2)) (h8 : mTg w b0 = 50) (h9 : mE ≤ b0) (h10 : 1 < mLn w b0) : mX d 147 159 [.ref a0, .ref a1, .int (nI x2), .int x3, mJ, mJ, mJ, mJ, mJ, mJ, mJ, mJ, mJ] [.ref b0] w = mX d 147 170 [.ref a0, .ref a1, .int (nI x2), .int x3, mJ, mJ, mJ, mJ, mJ, mJ, mJ, mJ, mJ] [.ref b0] (wI w b0 1 (mI w (gR w (gR w a0 9) x2) 1)) := by
  refine Eq.trans (X_dup f_147_159 rfl) ?_
  refine Eq.trans (X_iconst f_147_160 kc_i_1) ?_
  refine Eq.trans (X_st f_147_161 rfl rfl) ?_
  refine Eq.trans (X_getR f_147_162 h0 rfl h1) ?_
  refine Eq.trans (X_st f_147_165 rfl rfl) ?_
  refine Eq.trans (X_aald f_147_166 h2 (jnn h3) (jcl h3) h4 h5) ?_
  refine Eq.trans (X_iconst f_147_167 kc_i_1) ?_
  refine Eq.trans (X_iald f_147_168 h6 kn_1 kl_1 h7) ?_
  refine Eq.trans (X_iast f_147_169 h8 h9 kn_1 kl_1 h10) ?_
  exact mX_maskK lm_147_170 rfl
theorem b_147_170 {d : Nat} {a0 : Nat} {a1 : Nat} {x2 : Nat} {x3 : Int32} {b0 : Nat} {w : MW} (h0 : mTg w a0 = 10) (h1 : mR w a0 9 = some (gR w a0 9)) (h2 : 52 ≤ mTg w (gR w a0 9) ∧ mTg w (gR w a0 9) < 55) (h3 : x2 < 2147483648) (h4 : x2 < mLn w (gR w a0 9)) (h5 : mR w (gR w a0 9) x2 = some (gR w (gR w a0 9) x2)) (h6 : mTg w (gR w (gR w a0 9) x2) = 50) (h7 : 2 < mLn w (gR w (gR w a0 9) x2)) (h8 : mTg w b0 = 50) (h9 : mE ≤ b0) (h10 : 2 < mLn w b0) : mX d 147 170 [.ref a0, .ref a1, .int (nI x2), .int x3, mJ, mJ, mJ, mJ, mJ, mJ, mJ, mJ, mJ] [.ref b0] w = mX d 147 181 [.ref a0, .ref a1, .int (nI x2), .int x3, mJ, mJ, mJ, mJ, mJ, mJ, mJ, mJ, mJ] [.ref b0] (wI w b0 2 (mI w (gR w (gR w a0 9) x2) 2)) := by
  refine Eq.trans (X_dup f_147_170 rfl) ?_
  refine Eq.trans (X_iconst f_147_171 kc_i_2) ?_
  refine Eq.trans (X_st f_147_172 rfl rfl) ?_
  refine Eq.trans (X_getR f_147_173 h0 rfl h1) ?_
  refine Eq.trans (X_st f_147_176 rfl rfl) ?_
  refine Eq.trans (X_aald f_147_177 h2 (jnn h3) (jcl h3) h4 h5) ?_
  refine Eq.trans (X_iconst f_147_178 kc_i_2) ?_
  refine Eq.trans (X_iald f_147_179 h6 kn_2 kl_2 h7) ?_
  refine Eq.trans (X_iast f_147_180 h8 h9 kn_2 kl_2 h10) ?_
  exact mX_maskK lm_147_181 rfl
theorem b_147_181 {d : Nat} {a0 : Nat} {a1 : Nat} {x2 : Nat} {x3 : Int32} {b0 : Nat} {z0 : Nat} {w : MW} (h0 : mTg w a0 = 10) (h1 : mR w a0 8 = some (gR w a0 8)) (h2 : mR w a0 9 = some (gR w a0 9)) (h3 : 52 ≤ mTg w (gR w a0 9) ∧ mTg w (gR w a0 9) < 55) (h4 : x2 < 2147483648) (h5 : x2 < mLn w (gR w a0 9)) (h6 : mR w (gR w a0 9) x2 = some (gR w (gR w a0 9) x2)) (h7 : mTg w (gR w (gR w a0 9) x2) = 50) (h8 : 0 < mLn w (gR w (gR w a0 9) x2)) (h9 : mTg w (gR w a0 8) = 50) (h10 : (mI w (gR w (gR w a0 9) x2) 0) = nI z0) (h11 : z0 < 2147483648) (h12 : z0 < mLn w (gR w a0 8)) (h13 : mTg w b0 = 50) (h14 : mE ≤ b0) (h15 : 3 < mLn w b0) : mX d 147 181 [.ref a0, .ref a1, .int (nI x2), .int x3, mJ, mJ, mJ, mJ, mJ, mJ, mJ, mJ, mJ] [.ref b0] w = mX d 147 197 [.ref a0, .ref a1, .int (nI x2), .int x3, mJ, mJ, mJ, mJ, mJ, mJ, mJ, mJ, mJ] [.ref b0] (wI w b0 3 (mI w (gR w a0 8) z0)) := by
  refine Eq.trans (X_dup f_147_181 rfl) ?_
  refine Eq.trans (X_iconst f_147_182 kc_i_3) ?_
  refine Eq.trans (X_st f_147_183 rfl rfl) ?_
  refine Eq.trans (X_getR f_147_184 h0 rfl h1) ?_
  refine Eq.trans (X_st f_147_187 rfl rfl) ?_
  refine Eq.trans (X_getR f_147_188 h0 rfl h2) ?_
  refine Eq.trans (X_st f_147_191 rfl rfl) ?_
  refine Eq.trans (X_aald f_147_192 h3 (jnn h4) (jcl h4) h5 h6) ?_
  refine Eq.trans (X_iconst f_147_193 kc_i_0) ?_
  refine Eq.trans (X_iald f_147_194 h7 kn_0 kl_0 h8) ?_
  refine Eq.trans (X_iald f_147_195 h9 (jnnE h10 h11) (jclE h10 h11) h12) ?_
  refine Eq.trans (X_iast f_147_196 h13 h14 kn_3 kl_3 h15) ?_
  exact mX_maskK lm_147_197 rfl
theorem b_147_197 {d : Nat} {a0 : Nat} {a1 : Nat} {x2 : Int32} {x3 : Int32} {b0 : Nat} {w : MW} (h0 : mTg w b0 = 50) (h1 : mE ≤ b0) (h2 : 4 < mLn w b0) : mX d 147 197 [.ref a0, .ref a1, .int x2, .int x3, mJ, mJ, mJ, mJ, mJ, mJ, mJ, mJ, mJ] [.ref b0] w = mX d 147 201 [.ref a0, .ref a1, .int x2, mJ, mJ, mJ, mJ, mJ, mJ, mJ, mJ, mJ, mJ] [.ref b0] (wI w b0 4 x3) := by
  refine Eq.trans (X_dup f_147_197 rfl) ?_
  refine Eq.trans (X_iconst f_147_198 kc_i_4) ?_
  refine Eq.trans (X_st f_147_199 rfl rfl) ?_
  refine Eq.trans (X_iast f_147_200 h0 h1 kn_4 kl_4 h2) ?_
  exact mX_maskK lm_147_201 rfl
theorem b_147_201 {d : Nat} {a0 : Nat} {a1 : Nat} {x2 : Int32} {b0 : Nat} {w : MW} : mX d 147 201 [.ref a0, .ref a1, .int x2, mJ, mJ, mJ, mJ, mJ, mJ, mJ, mJ, mJ, mJ] [.ref b0] w = mX d 147 206 [.ref a0, .ref a1, .int x2, mJ, .ref b0, .int (nI 0), mJ, mJ, mJ, mJ, mJ, mJ, mJ] [] w := by
  refine Eq.trans (X_astore (L' := [.ref a0, .ref a1, .int x2, mJ, .ref b0, mJ, mJ, mJ, mJ, mJ, mJ, mJ, mJ]) f_147_201 (Nat.le_of_ble_eq_true rfl) rfl) ?_
  refine Eq.trans (X_iconst f_147_203 kc_i_0) ?_
  refine Eq.trans (X_istore (L' := [.ref a0, .ref a1, .int x2, mJ, .ref b0, .int (nI 0), mJ, mJ, mJ, mJ, mJ, mJ, mJ]) f_147_204 (Nat.le_of_ble_eq_true rfl) rfl) ?_
  exact mX_maskK lm_147_206 rfl
theorem b_147_206 {d : Nat} {a0 : Nat} {a1 : Nat} {x2 : Int32} {a4 : Nat} {x5 : Int32} {w : MW} : mX d 147 206 [.ref a0, .ref a1, .int x2, mJ, .ref a4, .int x5, mJ, mJ, mJ, mJ, mJ, mJ, mJ] [] w = (if (nI 5) ≤ x5 then mX d 147 235 [.ref a0, .ref a1, .int x2, mJ, mJ, mJ, mJ, mJ, mJ, mJ, mJ, mJ, mJ] [] w else mX d 147 212 [.ref a0, .ref a1, .int x2, mJ, .ref a4, .int x5, mJ, mJ, mJ, mJ, mJ, mJ, mJ] [] w) := by
  refine Eq.trans (X_st f_147_206 rfl rfl) ?_
  refine Eq.trans (X_iconst f_147_208 kc_i_5) ?_
  refine Eq.trans (X_br f_147_209 rfl rfl) ?_
  exact mIte_eq (mX_maskK lm_147_235 rfl) (mX_maskK lm_147_212 rfl)
theorem b_147_212 {d : Nat} {a0 : Nat} {a1 : Nat} {x2 : Int32} {a4 : Nat} {x5 : Int32} {w : MW} (h0 : mTg w a1 = 9) : mX (d + 1) 147 212 [.ref a0, .ref a1, .int x2, mJ, .ref a4, .int x5, mJ, mJ, mJ, mJ, mJ, mJ, mJ] [] w = mThen (mK d 100 [.ref a1, .int x2, .int x5] w) (fun v w9 => mX (d + 1) 147 219 [.ref a0, .ref a1, .int x2, mJ, .ref a4, .int x5, mJ, mJ, mJ, mJ, mJ, mJ, mJ] (v.toList ++ []) w9) := by
  refine Eq.trans (X_st f_147_212 rfl rfl) ?_
  refine Eq.trans (X_st f_147_213 rfl rfl) ?_
  refine Eq.trans (X_st f_147_214 rfl rfl) ?_
  refine Eq.trans (X_call f_147_216 (by decide) rfl rfl rfl rfl rfl rfl (Nat.le_of_ble_eq_true rfl) (Nat.le_of_ble_eq_true rfl) (decide_eq_true h0) (Nat.le_of_ble_eq_true rfl)) ?_
  exact mThen_eq fun v w9 => mX_maskK lm_147_219 rfl
theorem b_147_219 {d : Nat} {a0 : Nat} {a1 : Nat} {x2 : Int32} {a4 : Nat} {x5 : Nat} {y0 : Int32} {w : MW} (h0 : mTg w a4 = 50) (h1 : x5 < 2147483648) (h2 : x5 < mLn w a4) : mX d 147 219 [.ref a0, .ref a1, .int x2, mJ, .ref a4, .int (nI x5), mJ, mJ, mJ, mJ, mJ, mJ, mJ] [.int y0] w = (if y0 = (mI w a4 x5) then mX d 147 229 [.ref a0, .ref a1, .int x2, mJ, .ref a4, .int (nI x5), mJ, mJ, mJ, mJ, mJ, mJ, mJ] [] w else mX d 147 227 [mJ, mJ, mJ, mJ, mJ, mJ, mJ, mJ, mJ, mJ, mJ, mJ, mJ] [] w) := by
  refine Eq.trans (X_st f_147_219 rfl rfl) ?_
  refine Eq.trans (X_st f_147_221 rfl rfl) ?_
  refine Eq.trans (X_iald f_147_223 h0 (jnn h1) (jcl h1) h2) ?_
  refine Eq.trans (X_br f_147_224 rfl rfl) ?_
  exact mIte_eq (mX_maskK lm_147_229 rfl) (mX_maskK lm_147_227 rfl)
theorem b_147_227 {d : Nat} {w : MW} : mX d 147 227 [mJ, mJ, mJ, mJ, mJ, mJ, mJ, mJ, mJ, mJ, mJ, mJ, mJ] [] w = some (.inl (some (.int (nI 0))), w) := by
  refine Eq.trans (X_iconst f_147_227 kc_i_0) ?_
  exact X_ireturn f_147_228 rfl
theorem b_147_229 {d : Nat} {a0 : Nat} {a1 : Nat} {x2 : Int32} {a4 : Nat} {x5 : Int32} {w : MW} : mX d 147 229 [.ref a0, .ref a1, .int x2, mJ, .ref a4, .int x5, mJ, mJ, mJ, mJ, mJ, mJ, mJ] [] w = mX d 147 206 [.ref a0, .ref a1, .int x2, mJ, .ref a4, .int (x5 + (nI 1)), mJ, mJ, mJ, mJ, mJ, mJ, mJ] [] w := by
  refine Eq.trans (X_iinc f_147_229 kc_i_1 rfl rfl) ?_
  refine Eq.trans (X_st f_147_232 rfl rfl) ?_
  exact mX_maskK lm_147_206 rfl
theorem b_147_235 {d : Nat} {a0 : Nat} {a1 : Nat} {x2 : Int32} {w : MW} : mX d 147 235 [.ref a0, .ref a1, .int x2, mJ, mJ, mJ, mJ, mJ, mJ, mJ, mJ, mJ, mJ] [] w = mX d 147 36 [.ref a0, .ref a1, .int (x2 + (nI 1)), mJ, mJ, mJ, mJ, mJ, mJ, mJ, mJ, mJ, mJ] [] w := by
  refine Eq.trans (X_iinc f_147_235 kc_i_1 rfl rfl) ?_
  refine Eq.trans (X_st f_147_238 rfl rfl) ?_
  exact mX_maskK lm_147_36 rfl
theorem b_147_241 {d : Nat} {a0 : Nat} {a1 : Nat} {w : MW} : mX d 147 241 [.ref a0, .ref a1, mJ, mJ, mJ, mJ, mJ, mJ, mJ, mJ, mJ, mJ, mJ] [] w = mX d 147 243 [.ref a0, .ref a1, .int (nI 0), mJ, mJ, mJ, mJ, mJ, mJ, mJ, mJ, mJ, mJ] [] w := by
  refine Eq.trans (X_iconst f_147_241 kc_i_0) ?_
  refine Eq.trans (X_istore_n (L' := [.ref a0, .ref a1, .int (nI 0), mJ, mJ, mJ, mJ, mJ, mJ, mJ, mJ, mJ, mJ]) f_147_242 (Nat.le_of_ble_eq_true rfl) rfl) ?_
  exact mX_maskK lm_147_243 rfl
theorem b_147_243 {d : Nat} {a0 : Nat} {a1 : Nat} {x2 : Int32} {w : MW} (h0 : mTg w a0 = 10) (h1 : mR w a0 10 = some (gR w a0 10)) (h2 : 50 ≤ mTg w (gR w a0 10) ∧ mTg w (gR w a0 10) < 55) : mX d 147 243 [.ref a0, .ref a1, .int x2, mJ, mJ, mJ, mJ, mJ, mJ, mJ, mJ, mJ, mJ] [] w = (if (nI (mLn w (gR w a0 10))) ≤ x2 then mX d 147 383 [.ref a0, .ref a1, mJ, mJ, mJ, mJ, mJ, mJ, mJ, mJ, mJ, mJ, mJ] [] w else mX d 147 252 [.ref a0, .ref a1, .int x2, mJ, mJ, mJ, mJ, mJ, mJ, mJ, mJ, mJ, mJ] [] w) := by
  refine Eq.trans (X_st f_147_243 rfl rfl) ?_
  refine Eq.trans (X_st f_147_244 rfl rfl) ?_
  refine Eq.trans (X_getR f_147_245 h0 rfl h1) ?_
  refine Eq.trans (X_st f_147_248 rfl (if_pos h2)) ?_
  refine Eq.trans (X_br f_147_249 rfl rfl) ?_
  exact mIte_eq (mX_maskK lm_147_383 rfl) (mX_maskK lm_147_252 rfl)
theorem b_147_252 {d : Nat} {a0 : Nat} {a1 : Nat} {x2 : Int32} {w : MW} : mX d 147 252 [.ref a0, .ref a1, .int x2, mJ, mJ, mJ, mJ, mJ, mJ, mJ, mJ, mJ, mJ] [] w = mX d 147 255 [.ref a0, .ref a1, .int x2, mJ, mJ, mJ, mJ, mJ, mJ, mJ, mJ, mJ, mJ] [.ref (mSz w)] (wN w 50 5 5) := by
  refine Eq.trans (X_iconst f_147_252 kc_i_5) ?_
  refine Eq.trans (X_newa f_147_253 kn_5 kl_5 (Nat.le_of_ble_eq_true rfl)) ?_
  exact mX_maskK lm_147_255 rfl
theorem b_147_255 {d : Nat} {a0 : Nat} {a1 : Nat} {x2 : Nat} {b0 : Nat} {w : MW} (h0 : mTg w a0 = 10) (h1 : mR w a0 10 = some (gR w a0 10)) (h2 : 52 ≤ mTg w (gR w a0 10) ∧ mTg w (gR w a0 10) < 55) (h3 : x2 < 2147483648) (h4 : x2 < mLn w (gR w a0 10)) (h5 : mR w (gR w a0 10) x2 = some (gR w (gR w a0 10) x2)) (h6 : 50 ≤ mTg w (gR w (gR w a0 10) x2) ∧ mTg w (gR w (gR w a0 10) x2) < 55) (h7 : mTg w b0 = 50) (h8 : mE ≤ b0) (h9 : 0 < mLn w b0) : mX d 147 255 [.ref a0, .ref a1, .int (nI x2), mJ, mJ, mJ, mJ, mJ, mJ, mJ, mJ, mJ, mJ] [.ref b0] w = mX d 147 265 [.ref a0, .ref a1, .int (nI x2), mJ, mJ, mJ, mJ, mJ, mJ, mJ, mJ, mJ, mJ] [.ref b0] (wI w b0 0 (nI (mLn w (gR w (gR w a0 10) x2)))) := by
  refine Eq.trans (X_dup f_147_255 rfl) ?_
  refine Eq.trans (X_iconst f_147_256 kc_i_0) ?_
  refine Eq.trans (X_st f_147_257 rfl rfl) ?_
  refine Eq.trans (X_getR f_147_258 h0 rfl h1) ?_
  refine Eq.trans (X_st f_147_261 rfl rfl) ?_
  refine Eq.trans (X_aald f_147_262 h2 (jnn h3) (jcl h3) h4 h5) ?_
  refine Eq.trans (X_st f_147_263 rfl (if_pos h6)) ?_
  refine Eq.trans (X_iast f_147_264 h7 h8 kn_0 kl_0 h9) ?_
  exact mX_maskK lm_147_265 rfl
theorem b_147_265 {d : Nat} {a0 : Nat} {a1 : Nat} {x2 : Int32} {b0 : Nat} {w : MW} (h0 : mTg w a0 = 10) : mX (d + 1) 147 265 [.ref a0, .ref a1, .int x2, mJ, mJ, mJ, mJ, mJ, mJ, mJ, mJ, mJ, mJ] [.ref b0] w = mThen (mK d 127 [.ref a0, .int x2] w) (fun v w9 => mX (d + 1) 147 272 [.ref a0, .ref a1, .int x2, mJ, mJ, mJ, mJ, mJ, mJ, mJ, mJ, mJ, mJ] (v.toList ++ [.int (nI 1), .ref b0, .ref b0]) w9) := by
  refine Eq.trans (X_dup f_147_265 rfl) ?_
  refine Eq.trans (X_iconst f_147_266 kc_i_1) ?_
  refine Eq.trans (X_st f_147_267 rfl rfl) ?_
  refine Eq.trans (X_st f_147_268 rfl rfl) ?_
  refine Eq.trans (X_call f_147_269 (by decide) rfl rfl rfl rfl rfl rfl (Nat.le_of_ble_eq_true rfl) (Nat.le_of_ble_eq_true rfl) (decide_eq_true h0) (Nat.le_of_ble_eq_true rfl)) ?_
  exact mThen_eq fun v w9 => mX_maskK lm_147_272 rfl
theorem b_147_272 {d : Nat} {a0 : Nat} {a1 : Nat} {x2 : Int32} {y0 : Int32} {y1 : Nat} {b2 : Nat} {b3 : Nat} {w : MW} (h0 : mTg w b2 = 50) (h1 : mE ≤ b2) (h2 : y1 < 2147483648) (h3 : y1 < mLn w b2) : mX d 147 272 [.ref a0, .ref a1, .int x2, mJ, mJ, mJ, mJ, mJ, mJ, mJ, mJ, mJ, mJ] [.int y0, .int (nI y1), .ref b2, .ref b3] w = mX d 147 273 [.ref a0, .ref a1, .int x2, mJ, mJ, mJ, mJ, mJ, mJ, mJ, mJ, mJ, mJ] [.ref b3] (wI w b2 y1 y0) := by
  refine Eq.trans (X_iast f_147_272 h0 h1 (jnn h2) (jcl h2) h3) ?_
  exact mX_maskK lm_147_273 rfl
theorem b_147_273 {d : Nat} {a0 : Nat} {a1 : Nat} {x2 : Int32} {b0 : Nat} {w : MW} (h0 : mTg w a0 = 10) : mX (d + 1) 147 273 [.ref a0, .ref a1, .int x2, mJ, mJ, mJ, mJ, mJ, mJ, mJ, mJ, mJ, mJ] [.ref b0] w = mThen (mK d 128 [.ref a0, .int x2] w) (fun v w9 => mX (d + 1) 147 280 [.ref a0, .ref a1, .int x2, mJ, mJ, mJ, mJ, mJ, mJ, mJ, mJ, mJ, mJ] (v.toList ++ [.int (nI 2), .ref b0, .ref b0]) w9) := by
  refine Eq.trans (X_dup f_147_273 rfl) ?_
  refine Eq.trans (X_iconst f_147_274 kc_i_2) ?_
  refine Eq.trans (X_st f_147_275 rfl rfl) ?_
  refine Eq.trans (X_st f_147_276 rfl rfl) ?_
  refine Eq.trans (X_call f_147_277 (by decide) rfl rfl rfl rfl rfl rfl (Nat.le_of_ble_eq_true rfl) (Nat.le_of_ble_eq_true rfl) (decide_eq_true h0) (Nat.le_of_ble_eq_true rfl)) ?_
  exact mThen_eq fun v w9 => mX_maskK lm_147_280 rfl
theorem b_147_280 {d : Nat} {a0 : Nat} {a1 : Nat} {x2 : Int32} {y0 : Int32} {y1 : Nat} {b2 : Nat} {b3 : Nat} {w : MW} (h0 : mTg w b2 = 50) (h1 : mE ≤ b2) (h2 : y1 < 2147483648) (h3 : y1 < mLn w b2) : mX d 147 280 [.ref a0, .ref a1, .int x2, mJ, mJ, mJ, mJ, mJ, mJ, mJ, mJ, mJ, mJ] [.int y0, .int (nI y1), .ref b2, .ref b3] w = mX d 147 281 [.ref a0, .ref a1, .int x2, mJ, mJ, mJ, mJ, mJ, mJ, mJ, mJ, mJ, mJ] [.ref b3] (wI w b2 y1 y0) := by
  refine Eq.trans (X_iast f_147_280 h0 h1 (jnn h2) (jcl h2) h3) ?_
  exact mX_maskK lm_147_281 rfl
theorem b_147_281 {d : Nat} {a0 : Nat} {a1 : Nat} {x2 : Nat} {b0 : Nat} {w : MW} (h0 : mTg w a0 = 10) (h1 : mR w a0 11 = some (gR w a0 11)) (h2 : 52 ≤ mTg w (gR w a0 11) ∧ mTg w (gR w a0 11) < 55) (h3 : x2 < 2147483648) (h4 : x2 < mLn w (gR w a0 11)) (h5 : mR w (gR w a0 11) x2 = some (gR w (gR w a0 11) x2)) (h6 : mTg w (gR w (gR w a0 11) x2) = 50) (h7 : 0 < mLn w (gR w (gR w a0 11) x2)) (h8 : mTg w b0 = 50) (h9 : mE ≤ b0) (h10 : 3 < mLn w b0) : mX d 147 281 [.ref a0, .ref a1, .int (nI x2), mJ, mJ, mJ, mJ, mJ, mJ, mJ, mJ, mJ, mJ] [.ref b0] w = mX d 147 292 [.ref a0, .ref a1, .int (nI x2), mJ, mJ, mJ, mJ, mJ, mJ, mJ, mJ, mJ, mJ] [.ref b0] (wI w b0 3 (mI w (gR w (gR w a0 11) x2) 0)) := by
  refine Eq.trans (X_dup f_147_281 rfl) ?_
  refine Eq.trans (X_iconst f_147_282 kc_i_3) ?_
  refine Eq.trans (X_st f_147_283 rfl rfl) ?_
  refine Eq.trans (X_getR f_147_284 h0 rfl h1) ?_
  refine Eq.trans (X_st f_147_287 rfl rfl) ?_
  refine Eq.trans (X_aald f_147_288 h2 (jnn h3) (jcl h3) h4 h5) ?_
  refine Eq.trans (X_iconst f_147_289 kc_i_0) ?_
  refine Eq.trans (X_iald f_147_290 h6 kn_0 kl_0 h7) ?_
  refine Eq.trans (X_iast f_147_291 h8 h9 kn_3 kl_3 h10) ?_
  exact mX_maskK lm_147_292 rfl
theorem b_147_292 {d : Nat} {a0 : Nat} {a1 : Nat} {x2 : Nat} {b0 : Nat} {w : MW} (h0 : mTg w a0 = 10) (h1 : mR w a0 11 = some (gR w a0 11)) (h2 : 52 ≤ mTg w (gR w a0 11) ∧ mTg w (gR w a0 11) < 55) (h3 : x2 < 2147483648) (h4 : x2 < mLn w (gR w a0 11)) (h5 : mR w (gR w a0 11) x2 = some (gR w (gR w a0 11) x2)) (h6 : mTg w (gR w (gR w a0 11) x2) = 50) (h7 : 1 < mLn w (gR w (gR w a0 11) x2)) (h8 : mTg w b0 = 50) (h9 : mE ≤ b0) (h10 : 4 < mLn w b0) : mX d 147 292 [.ref a0, .ref a1, .int (nI x2), mJ, mJ, mJ, mJ, mJ, mJ, mJ, mJ, mJ, mJ] [.ref b0] w = mX d 147 303 [.ref a0, .ref a1, .int (nI x2), mJ, mJ, mJ, mJ, mJ, mJ, mJ, mJ, mJ, mJ] [.ref b0] (wI w b0 4 (mI w (gR w (gR w a0 11) x2) 1)) := by
  refine Eq.trans (X_dup f_147_292 rfl) ?_
  refine Eq.trans (X_iconst f_147_293 kc_i_4) ?_
  refine Eq.trans (X_st f_147_294 rfl rfl) ?_
  refine Eq.trans (X_getR f_147_295 h0 rfl h1) ?_
  refine Eq.trans (X_st f_147_298 rfl rfl) ?_
  refine Eq.trans (X_aald f_147_299 h2 (jnn h3) (jcl h3) h4 h5) ?_
  refine Eq.trans (X_iconst f_147_300 kc_i_1) ?_
  refine Eq.trans (X_iald f_147_301 h6 kn_1 kl_1 h7) ?_
  refine Eq.trans (X_iast f_147_302 h8 h9 kn_4 kl_4 h10) ?_
  exact mX_maskK lm_147_303 rfl
theorem b_147_303 {d : Nat} {a0 : Nat} {a1 : Nat} {x2 : Int32} {b0 : Nat} {w : MW} : mX d 147 303 [.ref a0, .ref a1, .int x2, mJ, mJ, mJ, mJ, mJ, mJ, mJ, mJ, mJ, mJ] [.ref b0] w = mX d 147 307 [.ref a0, .ref a1, .int x2, .ref b0, .int (nI 0), mJ, mJ, mJ, mJ, mJ, mJ, mJ, mJ] [] w := by
  refine Eq.trans (X_astore_n (L' := [.ref a0, .ref a1, .int x2, .ref b0, mJ, mJ, mJ, mJ, mJ, mJ, mJ, mJ, mJ]) f_147_303 (Nat.le_of_ble_eq_true rfl) rfl) ?_
  refine Eq.trans (X_iconst f_147_304 kc_i_0) ?_
  refine Eq.trans (X_istore (L' := [.ref a0, .ref a1, .int x2, .ref b0, .int (nI 0), mJ, mJ, mJ, mJ, mJ, mJ, mJ, mJ]) f_147_305 (Nat.le_of_ble_eq_true rfl) rfl) ?_
  exact mX_maskK lm_147_307 rfl
theorem b_147_307 {d : Nat} {a0 : Nat} {a1 : Nat} {x2 : Int32} {a3 : Nat} {x4 : Int32} {w : MW} : mX d 147 307 [.ref a0, .ref a1, .int x2, .ref a3, .int x4, mJ, mJ, mJ, mJ, mJ, mJ, mJ, mJ] [] w = (if (nI 5) ≤ x4 then mX d 147 335 [.ref a0, .ref a1, .int x2, mJ, mJ, mJ, mJ, mJ, mJ, mJ, mJ, mJ, mJ] [] w else mX d 147 313 [.ref a0, .ref a1, .int x2, .ref a3, .int x4, mJ, mJ, mJ, mJ, mJ, mJ, mJ, mJ] [] w) := by
  refine Eq.trans (X_st f_147_307 rfl rfl) ?_
  refine Eq.trans (X_iconst f_147_309 kc_i_5) ?_
  refine Eq.trans (X_br f_147_310 rfl rfl) ?_
  exact mIte_eq (mX_maskK lm_147_335 rfl) (mX_maskK lm_147_313 rfl)
theorem b_147_313 {d : Nat} {a0 : Nat} {a1 : Nat} {x2 : Int32} {a3 : Nat} {x4 : Int32} {w : MW} (h0 : mTg w a1 = 9) : mX (d + 1) 147 313 [.ref a0, .ref a1, .int x2, .ref a3, .int x4, mJ, mJ, mJ, mJ, mJ, mJ, mJ, mJ] [] w = mThen (mK d 101 [.ref a1, .int x2, .int x4] w) (fun v w9 => mX (d + 1) 147 320 [.ref a0, .ref a1, .int x2, .ref a3, .int x4, mJ, mJ, mJ, mJ, mJ, mJ, mJ, mJ] (v.toList ++ []) w9) := by
  refine Eq.trans (X_st f_147_313 rfl rfl) ?_
  refine Eq.trans (X_st f_147_314 rfl rfl) ?_
  refine Eq.trans (X_st f_147_315 rfl rfl) ?_
  refine Eq.trans (X_call f_147_317 (by decide) rfl rfl rfl rfl rfl rfl (Nat.le_of_ble_eq_true rfl) (Nat.le_of_ble_eq_true rfl) (decide_eq_true h0) (Nat.le_of_ble_eq_true rfl)) ?_
  exact mThen_eq fun v w9 => mX_maskK lm_147_320 rfl
theorem b_147_320 {d : Nat} {a0 : Nat} {a1 : Nat} {x2 : Int32} {a3 : Nat} {x4 : Nat} {y0 : Int32} {w : MW} (h0 : mTg w a3 = 50) (h1 : x4 < 2147483648) (h2 : x4 < mLn w a3) : mX d 147 320 [.ref a0, .ref a1, .int x2, .ref a3, .int (nI x4), mJ, mJ, mJ, mJ, mJ, mJ, mJ, mJ] [.int y0] w = (if y0 = (mI w a3 x4) then mX d 147 329 [.ref a0, .ref a1, .int x2, .ref a3, .int (nI x4), mJ, mJ, mJ, mJ, mJ, mJ, mJ, mJ] [] w else mX d 147 327 [mJ, mJ, mJ, mJ, mJ, mJ, mJ, mJ, mJ, mJ, mJ, mJ, mJ] [] w) := by
  refine Eq.trans (X_st f_147_320 rfl rfl) ?_
  refine Eq.trans (X_st f_147_321 rfl rfl) ?_
  refine Eq.trans (X_iald f_147_323 h0 (jnn h1) (jcl h1) h2) ?_
  refine Eq.trans (X_br f_147_324 rfl rfl) ?_
  exact mIte_eq (mX_maskK lm_147_329 rfl) (mX_maskK lm_147_327 rfl)
theorem b_147_327 {d : Nat} {w : MW} : mX d 147 327 [mJ, mJ, mJ, mJ, mJ, mJ, mJ, mJ, mJ, mJ, mJ, mJ, mJ] [] w = some (.inl (some (.int (nI 0))), w) := by
  refine Eq.trans (X_iconst f_147_327 kc_i_0) ?_
  exact X_ireturn f_147_328 rfl
theorem b_147_329 {d : Nat} {a0 : Nat} {a1 : Nat} {x2 : Int32} {a3 : Nat} {x4 : Int32} {w : MW} : mX d 147 329 [.ref a0, .ref a1, .int x2, .ref a3, .int x4, mJ, mJ, mJ, mJ, mJ, mJ, mJ, mJ] [] w = mX d 147 307 [.ref a0, .ref a1, .int x2, .ref a3, .int (x4 + (nI 1)), mJ, mJ, mJ, mJ, mJ, mJ, mJ, mJ] [] w := by
  refine Eq.trans (X_iinc f_147_329 kc_i_1 rfl rfl) ?_
  refine Eq.trans (X_st f_147_332 rfl rfl) ?_
  exact mX_maskK lm_147_307 rfl
theorem b_147_335 {d : Nat} {a0 : Nat} {a1 : Nat} {x2 : Int32} {w : MW} : mX d 147 335 [.ref a0, .ref a1, .int x2, mJ, mJ, mJ, mJ, mJ, mJ, mJ, mJ, mJ, mJ] [] w = mX d 147 338 [.ref a0, .ref a1, .int x2, mJ, .int (nI 0), mJ, mJ, mJ, mJ, mJ, mJ, mJ, mJ] [] w := by
  refine Eq.trans (X_iconst f_147_335 kc_i_0) ?_
  refine Eq.trans (X_istore (L' := [.ref a0, .ref a1, .int x2, mJ, .int (nI 0), mJ, mJ, mJ, mJ, mJ, mJ, mJ, mJ]) f_147_336 (Nat.le_of_ble_eq_true rfl) rfl) ?_
  exact mX_maskK lm_147_338 rfl
theorem b_147_338 {d : Nat} {a0 : Nat} {a1 : Nat} {x2 : Nat} {x4 : Int32} {w : MW} (h0 : mTg w a0 = 10) (h1 : mR w a0 10 = some (gR w a0 10)) (h2 : 52 ≤ mTg w (gR w a0 10) ∧ mTg w (gR w a0 10) < 55) (h3 : x2 < 2147483648) (h4 : x2 < mLn w (gR w a0 10)) (h5 : mR w (gR w a0 10) x2 = some (gR w (gR w a0 10) x2)) (h6 : 50 ≤ mTg w (gR w (gR w a0 10) x2) ∧ mTg w (gR w (gR w a0 10) x2) < 55) : mX d 147 338 [.ref a0, .ref a1, .int (nI x2), mJ, .int x4, mJ, mJ, mJ, mJ, mJ, mJ, mJ, mJ] [] w = (if (nI (mLn w (gR w (gR w a0 10) x2))) ≤ x4 then mX d 147 377 [.ref a0, .ref a1, .int (nI x2), mJ, mJ, mJ, mJ, mJ, mJ, mJ, mJ, mJ, mJ] [] w else mX d 147 350 [.ref a0, .ref a1, .int (nI x2), mJ, .int x4, mJ, mJ, mJ, mJ, mJ, mJ, mJ, mJ] [] w) := by
  refine Eq.trans (X_st f_147_338 rfl rfl) ?_
  refine Eq.trans (X_st f_147_340 rfl rfl) ?_
  refine Eq.trans (X_getR f_147_341 h0 rfl h1) ?_
  refine Eq.trans (X_st f_147_344 rfl rfl) ?_
  refine Eq.trans (X_aald f_147_345 h2 (jnn h3) (jcl h3) h4 h5) ?_
  refine Eq.trans (X_st f_147_346 rfl (if_pos h6)) ?_
  refine Eq.trans (X_br f_147_347 rfl rfl) ?_
  exact mIte_eq (mX_maskK lm_147_377 rfl) (mX_maskK lm_147_350 rfl)
theorem b_147_350 {d : Nat} {a0 : Nat} {a1 : Nat} {x2 : Int32} {x4 : Int32} {w : MW} (h0 : mTg w a1 = 9) : mX (d + 1) 147 350 [.ref a0, .ref a1, .int x2, mJ, .int x4, mJ, mJ, mJ, mJ, mJ, mJ, mJ, mJ] [] w = mThen (mK d 102 [.ref a1, .int x2, .int x4] w) (fun v w9 => mX (d + 1) 147 357 [.ref a0, .ref a1, .int x2, mJ, .int x4, mJ, mJ, mJ, mJ, mJ, mJ, mJ, mJ] (v.toList ++ []) w9) := by
  refine Eq.trans (X_st f_147_350 rfl rfl) ?_
  refine Eq.trans (X_st f_147_351 rfl rfl) ?_
  refine Eq.trans (X_st f_147_352 rfl rfl) ?_
  refine Eq.trans (X_call f_147_354 (by decide) rfl rfl rfl rfl rfl rfl (Nat.le_of_ble_eq_true rfl) (Nat.le_of_ble_eq_true rfl) (decide_eq_true h0) (Nat.le_of_ble_eq_true rfl)) ?_
  exact mThen_eq fun v w9 => mX_maskK lm_147_357 rfl
theorem b_147_357 {d : Nat} {a0 : Nat} {a1 : Nat} {x2 : Nat} {x4 : Nat} {y0 : Int32} {w : MW} (h0 : mTg w a0 = 10) (h1 : mR w a0 10 = some (gR w a0 10)) (h2 : 52 ≤ mTg w (gR w a0 10) ∧ mTg w (gR w a0 10) < 55) (h3 : x2 < 2147483648) (h4 : x2 < mLn w (gR w a0 10)) (h5 : mR w (gR w a0 10) x2 = some (gR w (gR w a0 10) x2)) (h6 : mTg w (gR w (gR w a0 10) x2) = 50) (h7 : x4 < 2147483648) (h8 : x4 < mLn w (gR w (gR w a0 10) x2)) : mX d 147 357 [.ref a0, .ref a1, .int (nI x2), mJ, .int (nI x4), mJ, mJ, mJ, mJ, mJ, mJ, mJ, mJ] [.int y0] w = (if y0 = (mI w (gR w (gR w a0 10) x2) x4) then mX d 147 371 [.ref a0, .ref a1, .int (nI x2), mJ, .int (nI x4), mJ, mJ, mJ, mJ, mJ, mJ, mJ, mJ] [] w else mX d 147 369 [mJ, mJ, mJ, mJ, mJ, mJ, mJ, mJ, mJ, mJ, mJ, mJ, mJ] [] w) := by
  refine Eq.trans (X_st f_147_357 rfl rfl) ?_
  refine Eq.trans (X_getR f_147_358 h0 rfl h1) ?_
  refine Eq.trans (X_st f_147_361 rfl rfl) ?_
  refine Eq.trans (X_aald f_147_362 h2 (jnn h3) (jcl h3) h4 h5) ?_
  refine Eq.trans (X_st f_147_363 rfl rfl) ?_
  refine Eq.trans (X_iald f_147_365 h6 (jnn h7) (jcl h7) h8) ?_
  refine Eq.trans (X_br f_147_366 rfl rfl) ?_
  exact mIte_eq (mX_maskK lm_147_371 rfl) (mX_maskK lm_147_369 rfl)
theorem b_147_369 {d : Nat} {w : MW} : mX d 147 369 [mJ, mJ, mJ, mJ, mJ, mJ, mJ, mJ, mJ, mJ, mJ, mJ, mJ] [] w = some (.inl (some (.int (nI 0))), w) := by
  refine Eq.trans (X_iconst f_147_369 kc_i_0) ?_
  exact X_ireturn f_147_370 rfl
theorem b_147_371 {d : Nat} {a0 : Nat} {a1 : Nat} {x2 : Int32} {x4 : Int32} {w : MW} : mX d 147 371 [.ref a0, .ref a1, .int x2, mJ, .int x4, mJ, mJ, mJ, mJ, mJ, mJ, mJ, mJ] [] w = mX d 147 338 [.ref a0, .ref a1, .int x2, mJ, .int (x4 + (nI 1)), mJ, mJ, mJ, mJ, mJ, mJ, mJ, mJ] [] w := by
  refine Eq.trans (X_iinc f_147_371 kc_i_1 rfl rfl) ?_
  refine Eq.trans (X_st f_147_374 rfl rfl) ?_
  exact mX_maskK lm_147_338 rfl
theorem b_147_377 {d : Nat} {a0 : Nat} {a1 : Nat} {x2 : Int32} {w : MW} : mX d 147 377 [.ref a0, .ref a1, .int x2, mJ, mJ, mJ, mJ, mJ, mJ, mJ, mJ, mJ, mJ] [] w = mX d 147 243 [.ref a0, .ref a1, .int (x2 + (nI 1)), mJ, mJ, mJ, mJ, mJ, mJ, mJ, mJ, mJ, mJ] [] w := by
  refine Eq.trans (X_iinc f_147_377 kc_i_1 rfl rfl) ?_
  refine Eq.trans (X_st f_147_380 rfl rfl) ?_
  exact mX_maskK lm_147_243 rfl
theorem b_147_383 {d : Nat} {a0 : Nat} {a1 : Nat} {w : MW} : mX d 147 383 [.ref a0, .ref a1, mJ, mJ, mJ, mJ, mJ, mJ, mJ, mJ, mJ, mJ, mJ] [] w = mX d 147 387 [.ref a0, .ref a1, .int (nI 0), .int (nI 0), mJ, mJ, mJ, mJ, mJ, mJ, mJ, mJ, mJ] [] w := by
  refine Eq.trans (X_iconst f_147_383 kc_i_0) ?_
  refine Eq.trans (X_istore_n (L' := [.ref a0, .ref a1, .int (nI 0), mJ, mJ, mJ, mJ, mJ, mJ, mJ, mJ, mJ, mJ]) f_147_384 (Nat.le_of_ble_eq_true rfl) rfl) ?_
  refine Eq.trans (X_iconst f_147_385 kc_i_0) ?_
  refine Eq.trans (X_istore_n (L' := [.ref a0, .ref a1, .int (nI 0), .int (nI 0), mJ, mJ, mJ, mJ, mJ, mJ, mJ, mJ, mJ]) f_147_386 (Nat.le_of_ble_eq_true rfl) rfl) ?_
  exact mX_maskK lm_147_387 rfl
theorem b_147_387 {d : Nat} {a0 : Nat} {a1 : Nat} {x2 : Int32} {x3 : Int32} {w : MW} (h0 : mTg w a0 = 10) (h1 : mR w a0 12 = some (gR w a0 12)) (h2 : 50 ≤ mTg w (gR w a0 12) ∧ mTg w (gR w a0 12) < 55) : mX d 147 387 [.ref a0, .ref a1, .int x2, .int x3, mJ, mJ, mJ, mJ, mJ, mJ, mJ, mJ, mJ] [] w = (if (nI (mLn w (gR w a0 12))) ≤ x3 then mX d 147 585 [.ref a0, .ref a1, .int x2, mJ, mJ, mJ, mJ, mJ, mJ, mJ, mJ, mJ, mJ] [] w else mX d 147 396 [.ref a0, .ref a1, .int x2, .int x3, mJ, mJ, mJ, mJ, mJ, mJ, mJ, mJ, mJ] [] w) := by
  refine Eq.trans (X_st f_147_387 rfl rfl) ?_
  refine Eq.trans (X_st f_147_388 rfl rfl) ?_
  refine Eq.trans (X_getR f_147_389 h0 rfl h1) ?_
  refine Eq.trans (X_st f_147_392 rfl (if_pos h2)) ?_
  refine Eq.trans (X_br f_147_393 rfl rfl) ?_
  exact mIte_eq (mX_maskK lm_147_585 rfl) (mX_maskK lm_147_396 rfl)
theorem b_147_396 {d : Nat} {a0 : Nat} {a1 : Nat} {x2 : Int32} {x3 : Int32} {w : MW} : mX d 147 396 [.ref a0, .ref a1, .int x2, .int x3, mJ, mJ, mJ, mJ, mJ, mJ, mJ, mJ, mJ] [] w = mX d 147 399 [.ref a0, .ref a1, .int x2, .int x3, .int (nI 0), mJ, mJ, mJ, mJ, mJ, mJ, mJ, mJ] [] w := by
  refine Eq.trans (X_iconst f_147_396 kc_i_0) ?_
  refine Eq.trans (X_istore (L' := [.ref a0, .ref a1, .int x2, .int x3, .int (nI 0), mJ, mJ, mJ, mJ, mJ, mJ, mJ, mJ]) f_147_397 (Nat.le_of_ble_eq_true rfl) rfl) ?_
  exact mX_maskK lm_147_399 rfl
theorem b_147_399 {d : Nat} {a0 : Nat} {a1 : Nat} {x2 : Int32} {x3 : Int32} {x4 : Int32} {w : MW} : mX d 147 399 [.ref a0, .ref a1, .int x2, .int x3, .int x4, mJ, mJ, mJ, mJ, mJ, mJ, mJ, mJ] [] w = (if (nI 8) ≤ x4 then mX d 147 433 [.ref a0, .ref a1, .int x2, .int x3, mJ, mJ, mJ, mJ, mJ, mJ, mJ, mJ, mJ] [] w else mX d 147 406 [.ref a0, .ref a1, .int x2, .int x3, .int x4, mJ, mJ, mJ, mJ, mJ, mJ, mJ, mJ] [] w) := by
  refine Eq.trans (X_st f_147_399 rfl rfl) ?_
  refine Eq.trans (X_bipush f_147_401 kc_b_8) ?_
  refine Eq.trans (X_br f_147_403 rfl rfl) ?_
  exact mIte_eq (mX_maskK lm_147_433 rfl) (mX_maskK lm_147_406 rfl)
theorem b_147_406 {d : Nat} {a0 : Nat} {a1 : Nat} {x2 : Int32} {x3 : Int32} {x4 : Int32} {w : MW} (h0 : mTg w a1 = 9) : mX (d + 1) 147 406 [.ref a0, .ref a1, .int x2, .int x3, .int x4, mJ, mJ, mJ, mJ, mJ, mJ, mJ, mJ] [] w = mThen (mK d 103 [.ref a1, .int x3, .int x4] w) (fun v w9 => mX (d + 1) 147 413 [.ref a0, .ref a1, .int x2, .int x3, .int x4, mJ, mJ, mJ, mJ, mJ, mJ, mJ, mJ] (v.toList ++ []) w9) := by
  refine Eq.trans (X_st f_147_406 rfl rfl) ?_
  refine Eq.trans (X_st f_147_407 rfl rfl) ?_
  refine Eq.trans (X_st f_147_408 rfl rfl) ?_
  refine Eq.trans (X_call f_147_410 (by decide) rfl rfl rfl rfl rfl rfl (Nat.le_of_ble_eq_true rfl) (Nat.le_of_ble_eq_true rfl) (decide_eq_true h0) (Nat.le_of_ble_eq_true rfl)) ?_
  exact mThen_eq fun v w9 => mX_maskK lm_147_413 rfl
theorem b_147_413 {d : Nat} {a0 : Nat} {a1 : Nat} {x2 : Int32} {x3 : Nat} {x4 : Nat} {y0 : Int32} {w : MW} (h0 : mTg w a0 = 10) (h1 : mR w a0 12 = some (gR w a0 12)) (h2 : 52 ≤ mTg w (gR w a0 12) ∧ mTg w (gR w a0 12) < 55) (h3 : x3 < 2147483648) (h4 : x3 < mLn w (gR w a0 12)) (h5 : mR w (gR w a0 12) x3 = some (gR w (gR w a0 12) x3)) (h6 : mTg w (gR w (gR w a0 12) x3) = 50) (h7 : x4 < 2147483648) (h8 : x4 < mLn w (gR w (gR w a0 12) x3)) : mX d 147 413 [.ref a0, .ref a1, .int x2, .int (nI x3), .int (nI x4), mJ, mJ, mJ, mJ, mJ, mJ, mJ, mJ] [.int y0] w = (if y0 = (mI w (gR w (gR w a0 12) x3) x4) then mX d 147 427 [.ref a0, .ref a1, .int x2, .int (nI x3), .int (nI x4), mJ, mJ, mJ, mJ, mJ, mJ, mJ, mJ] [] w else mX d 147 425 [mJ, mJ, mJ, mJ, mJ, mJ, mJ, mJ, mJ, mJ, mJ, mJ, mJ] [] w) := by
  refine Eq.trans (X_st f_147_413 rfl rfl) ?_
  refine Eq.trans (X_getR f_147_414 h0 rfl h1) ?_
  refine Eq.trans (X_st f_147_417 rfl rfl) ?_
  refine Eq.trans (X_aald f_147_418 h2 (jnn h3) (jcl h3) h4 h5) ?_
  refine Eq.trans (X_st f_147_419 rfl rfl) ?_
  refine Eq.trans (X_iald f_147_421 h6 (jnn h7) (jcl h7) h8) ?_
  refine Eq.trans (X_br f_147_422 rfl rfl) ?_
  exact mIte_eq (mX_maskK lm_147_427 rfl) (mX_maskK lm_147_425 rfl)
theorem b_147_425 {d : Nat} {w : MW} : mX d 147 425 [mJ, mJ, mJ, mJ, mJ, mJ, mJ, mJ, mJ, mJ, mJ, mJ, mJ] [] w = some (.inl (some (.int (nI 0))), w) := by
  refine Eq.trans (X_iconst f_147_425 kc_i_0) ?_
  exact X_ireturn f_147_426 rfl
theorem b_147_427 {d : Nat} {a0 : Nat} {a1 : Nat} {x2 : Int32} {x3 : Int32} {x4 : Int32} {w : MW} : mX d 147 427 [.ref a0, .ref a1, .int x2, .int x3, .int x4, mJ, mJ, mJ, mJ, mJ, mJ, mJ, mJ] [] w = mX d 147 399 [.ref a0, .ref a1, .int x2, .int x3, .int (x4 + (nI 1)), mJ, mJ, mJ, mJ, mJ, mJ, mJ, mJ] [] w := by
  refine Eq.trans (X_iinc f_147_427 kc_i_1 rfl rfl) ?_
  refine Eq.trans (X_st f_147_430 rfl rfl) ?_
  exact mX_maskK lm_147_399 rfl
theorem b_147_433 {d : Nat} {a0 : Nat} {a1 : Nat} {x2 : Int32} {x3 : Int32} {w : MW} (h0 : mTg w a1 = 9) : mX (d + 1) 147 433 [.ref a0, .ref a1, .int x2, .int x3, mJ, mJ, mJ, mJ, mJ, mJ, mJ, mJ, mJ] [] w = mThen (mK d 103 [.ref a1, .int x3, .int (nI 8)] w) (fun v w9 => mX (d + 1) 147 440 [.ref a0, .ref a1, .int x2, .int x3, mJ, mJ, mJ, mJ, mJ, mJ, mJ, mJ, mJ] (v.toList ++ []) w9) := by
  refine Eq.trans (X_st f_147_433 rfl rfl) ?_
  refine Eq.trans (X_st f_147_434 rfl rfl) ?_
  refine Eq.trans (X_bipush f_147_435 kc_b_8) ?_
  refine Eq.trans (X_call f_147_437 (by decide) rfl rfl rfl rfl rfl rfl (Nat.le_of_ble_eq_true rfl) (Nat.le_of_ble_eq_true rfl) (decide_eq_true h0) (Nat.le_of_ble_eq_true rfl)) ?_
  exact mThen_eq fun v w9 => mX_maskK lm_147_440 rfl
theorem b_147_440 {d : Nat} {a0 : Nat} {a1 : Nat} {x2 : Int32} {x3 : Int32} {y0 : Int32} {w : MW} (h0 : mTg w a0 = 10) : mX (d + 1) 147 440 [.ref a0, .ref a1, .int x2, .int x3, mJ, mJ, mJ, mJ, mJ, mJ, mJ, mJ, mJ] [.int y0] w = mThen (mK d 133 [.ref a0, .int x3] w) (fun v w9 => mX (d + 1) 147 445 [.ref a0, .ref a1, .int x2, .int x3, mJ, mJ, mJ, mJ, mJ, mJ, mJ, mJ, mJ] (v.toList ++ [.int y0]) w9) := by
  refine Eq.trans (X_st f_147_440 rfl rfl) ?_
  refine Eq.trans (X_st f_147_441 rfl rfl) ?_
  refine Eq.trans (X_call f_147_442 (by decide) rfl rfl rfl rfl rfl rfl (Nat.le_of_ble_eq_true rfl) (Nat.le_of_ble_eq_true rfl) (decide_eq_true h0) (Nat.le_of_ble_eq_true rfl)) ?_
  exact mThen_eq fun v w9 => mX_maskK lm_147_445 rfl
theorem b_147_445 {d : Nat} {a0 : Nat} {a1 : Nat} {x2 : Int32} {x3 : Int32} {y0 : Int32} {y1 : Int32} {w : MW} : mX d 147 445 [.ref a0, .ref a1, .int x2, .int x3, mJ, mJ, mJ, mJ, mJ, mJ, mJ, mJ, mJ] [.int y0, .int y1] w = (if y1 = y0 then mX d 147 450 [.ref a0, .ref a1, .int x2, .int x3, mJ, mJ, mJ, mJ, mJ, mJ, mJ, mJ, mJ] [] w else mX d 147 448 [mJ, mJ, mJ, mJ, mJ, mJ, mJ, mJ, mJ, mJ, mJ, mJ, mJ] [] w) := by
  refine Eq.trans (X_br f_147_445 rfl rfl) ?_
  exact mIte_eq (mX_maskK lm_147_450 rfl) (mX_maskK lm_147_448 rfl)
theorem b_147_448 {d : Nat} {w : MW} : mX d 147 448 [mJ, mJ, mJ, mJ, mJ, mJ, mJ, mJ, mJ, mJ, mJ, mJ, mJ] [] w = some (.inl (some (.int (nI 0))), w) := by
  refine Eq.trans (X_iconst f_147_448 kc_i_0) ?_
  exact X_ireturn f_147_449 rfl
theorem b_147_450 {d : Nat} {a0 : Nat} {a1 : Nat} {x2 : Int32} {x3 : Int32} {w : MW} : mX d 147 450 [.ref a0, .ref a1, .int x2, .int x3, mJ, mJ, mJ, mJ, mJ, mJ, mJ, mJ, mJ] [] w = mX d 147 453 [.ref a0, .ref a1, .int x2, .int x3, .int (nI 0), mJ, mJ, mJ, mJ, mJ, mJ, mJ, mJ] [] w := by
  refine Eq.trans (X_iconst f_147_450 kc_i_0) ?_
  refine Eq.trans (X_istore (L' := [.ref a0, .ref a1, .int x2, .int x3, .int (nI 0), mJ, mJ, mJ, mJ, mJ, mJ, mJ, mJ]) f_147_451 (Nat.le_of_ble_eq_true rfl) rfl) ?_
  exact mX_maskK lm_147_453 rfl
theorem b_147_453 {d : Nat} {a0 : Nat} {a1 : Nat} {x2 : Int32} {x3 : Int32} {x4 : Int32} {w : MW} (h0 : mTg w a0 = 10) (h1 : mR w a0 8 = some (gR w a0 8)) (h2 : 50 ≤ mTg w (gR w a0 8) ∧ mTg w (gR w a0 8) < 55) : mX d 147 453 [.ref a0, .ref a1, .int x2, .int x3, .int x4, mJ, mJ, mJ, mJ, mJ, mJ, mJ, mJ] [] w = (if (nI (mLn w (gR w a0 8))) ≤ x4 then mX d 147 490 [.ref a0, .ref a1, .int x2, .int x3, mJ, mJ, mJ, mJ, mJ, mJ, mJ, mJ, mJ] [] w else mX d 147 463 [.ref a0, .ref a1, .int x2, .int x3, .int x4, mJ, mJ, mJ, mJ, mJ, mJ, mJ, mJ] [] w) := by
  refine Eq.trans (X_st f_147_453 rfl rfl) ?_
  refine Eq.trans (X_st f_147_455 rfl rfl) ?_
  refine Eq.trans (X_getR f_147_456 h0 rfl h1) ?_
  refine Eq.trans (X_st f_147_459 rfl (if_pos h2)) ?_
  refine Eq.trans (X_br f_147_460 rfl rfl) ?_
  exact mIte_eq (mX_maskK lm_147_490 rfl) (mX_maskK lm_147_463 rfl)
theorem b_147_463 {d : Nat} {a0 : Nat} {a1 : Nat} {x2 : Int32} {x3 : Int32} {x4 : Int32} {w : MW} (h0 : mTg w a1 = 9) : mX (d + 1) 147 463 [.ref a0, .ref a1, .int x2, .int x3, .int x4, mJ, mJ, mJ, mJ, mJ, mJ, mJ, mJ] [] w = mThen (mK d 104 [.ref a1, .int x3, .int x4] w) (fun v w9 => mX (d + 1) 147 470 [.ref a0, .ref a1, .int x2, .int x3, .int x4, mJ, mJ, mJ, mJ, mJ, mJ, mJ, mJ] (v.toList ++ []) w9) := by
  refine Eq.trans (X_st f_147_463 rfl rfl) ?_
  refine Eq.trans (X_st f_147_464 rfl rfl) ?_
  refine Eq.trans (X_st f_147_465 rfl rfl) ?_
  refine Eq.trans (X_call f_147_467 (by decide) rfl rfl rfl rfl rfl rfl (Nat.le_of_ble_eq_true rfl) (Nat.le_of_ble_eq_true rfl) (decide_eq_true h0) (Nat.le_of_ble_eq_true rfl)) ?_
  exact mThen_eq fun v w9 => mX_maskK lm_147_470 rfl
theorem b_147_470 {d : Nat} {a0 : Nat} {a1 : Nat} {x2 : Int32} {x3 : Nat} {x4 : Nat} {y0 : Int32} {w : MW} (h0 : mTg w a0 = 10) (h1 : mR w a0 13 = some (gR w a0 13)) (h2 : 52 ≤ mTg w (gR w a0 13) ∧ mTg w (gR w a0 13) < 55) (h3 : x3 < 2147483648) (h4 : x3 < mLn w (gR w a0 13)) (h5 : mR w (gR w a0 13) x3 = some (gR w (gR w a0 13) x3)) (h6 : mTg w (gR w (gR w a0 13) x3) = 50) (h7 : x4 < 2147483648) (h8 : x4 < mLn w (gR w (gR w a0 13) x3)) : mX d 147 470 [.ref a0, .ref a1, .int x2, .int (nI x3), .int (nI x4), mJ, mJ, mJ, mJ, mJ, mJ, mJ, mJ] [.int y0] w = (if y0 = (mI w (gR w (gR w a0 13) x3) x4) then mX d 147 484 [.ref a0, .ref a1, .int x2, .int (nI x3), .int (nI x4), mJ, mJ, mJ, mJ, mJ, mJ, mJ, mJ] [] w else mX d 147 482 [mJ, mJ, mJ, mJ, mJ, mJ, mJ, mJ, mJ, mJ, mJ, mJ, mJ] [] w) := by
  refine Eq.trans (X_st f_147_470 rfl rfl) ?_
  refine Eq.trans (X_getR f_147_471 h0 rfl h1) ?_
  refine Eq.trans (X_st f_147_474 rfl rfl) ?_
  refine Eq.trans (X_aald f_147_475 h2 (jnn h3) (jcl h3) h4 h5) ?_
  refine Eq.trans (X_st f_147_476 rfl rfl) ?_
  refine Eq.trans (X_iald f_147_478 h6 (jnn h7) (jcl h7) h8) ?_
  refine Eq.trans (X_br f_147_479 rfl rfl) ?_
  exact mIte_eq (mX_maskK lm_147_484 rfl) (mX_maskK lm_147_482 rfl)
theorem b_147_482 {d : Nat} {w : MW} : mX d 147 482 [mJ, mJ, mJ, mJ, mJ, mJ, mJ, mJ, mJ, mJ, mJ, mJ, mJ] [] w = some (.inl (some (.int (nI 0))), w) := by
  refine Eq.trans (X_iconst f_147_482 kc_i_0) ?_
  exact X_ireturn f_147_483 rfl
theorem b_147_484 {d : Nat} {a0 : Nat} {a1 : Nat} {x2 : Int32} {x3 : Int32} {x4 : Int32} {w : MW} : mX d 147 484 [.ref a0, .ref a1, .int x2, .int x3, .int x4, mJ, mJ, mJ, mJ, mJ, mJ, mJ, mJ] [] w = mX d 147 453 [.ref a0, .ref a1, .int x2, .int x3, .int (x4 + (nI 1)), mJ, mJ, mJ, mJ, mJ, mJ, mJ, mJ] [] w := by
  refine Eq.trans (X_iinc f_147_484 kc_i_1 rfl rfl) ?_
  refine Eq.trans (X_st f_147_487 rfl rfl) ?_
  exact mX_maskK lm_147_453 rfl
theorem b_147_490 {d : Nat} {a0 : Nat} {a1 : Nat} {x2 : Int32} {x3 : Int32} {w : MW} : mX d 147 490 [.ref a0, .ref a1, .int x2, .int x3, mJ, mJ, mJ, mJ, mJ, mJ, mJ, mJ, mJ] [] w = mX d 147 493 [.ref a0, .ref a1, .int x2, .int x3, .int (nI 0), mJ, mJ, mJ, mJ, mJ, mJ, mJ, mJ] [] w := by
  refine Eq.trans (X_iconst f_147_490 kc_i_0) ?_
  refine Eq.trans (X_istore (L' := [.ref a0, .ref a1, .int x2, .int x3, .int (nI 0), mJ, mJ, mJ, mJ, mJ, mJ, mJ, mJ]) f_147_491 (Nat.le_of_ble_eq_true rfl) rfl) ?_
  exact mX_maskK lm_147_493 rfl
theorem b_147_493 {d : Nat} {a0 : Nat} {a1 : Nat} {x2 : Int32} {x3 : Int32} {x4 : Int32} {w : MW} (h0 : mTg w a0 = 10) (h1 : mR w a0 9 = some (gR w a0 9)) (h2 : 50 ≤ mTg w (gR w a0 9) ∧ mTg w (gR w a0 9) < 55) : mX d 147 493 [.ref a0, .ref a1, .int x2, .int x3, .int x4, mJ, mJ, mJ, mJ, mJ, mJ, mJ, mJ] [] w = (if (nI (mLn w (gR w a0 9))) ≤ x4 then mX d 147 530 [.ref a0, .ref a1, .int x2, .int x3, mJ, mJ, mJ, mJ, mJ, mJ, mJ, mJ, mJ] [] w else mX d 147 503 [.ref a0, .ref a1, .int x2, .int x3, .int x4, mJ, mJ, mJ, mJ, mJ, mJ, mJ, mJ] [] w) := by
  refine Eq.trans (X_st f_147_493 rfl rfl) ?_
  refine Eq.trans (X_st f_147_495 rfl rfl) ?_
  refine Eq.trans (X_getR f_147_496 h0 rfl h1) ?_
  refine Eq.trans (X_st f_147_499 rfl (if_pos h2)) ?_
  refine Eq.trans (X_br f_147_500 rfl rfl) ?_
  exact mIte_eq (mX_maskK lm_147_530 rfl) (mX_maskK lm_147_503 rfl)
theorem b_147_503 {d : Nat} {a0 : Nat} {a1 : Nat} {x2 : Int32} {x3 : Int32} {x4 : Int32} {w : MW} (h0 : mTg w a1 = 9) : mX (d + 1) 147 503 [.ref a0, .ref a1, .int x2, .int x3, .int x4, mJ, mJ, mJ, mJ, mJ, mJ, mJ, mJ] [] w = mThen (mK d 105 [.ref a1, .int x3, .int x4] w) (fun v w9 => mX (d + 1) 147 510 [.ref a0, .ref a1, .int x2, .int x3, .int x4, mJ, mJ, mJ, mJ, mJ, mJ, mJ, mJ] (v.toList ++ []) w9) := by
  refine Eq.trans (X_st f_147_503 rfl rfl) ?_
  refine Eq.trans (X_st f_147_504 rfl rfl) ?_
  refine Eq.trans (X_st f_147_505 rfl rfl) ?_
  refine Eq.trans (X_call f_147_507 (by decide) rfl rfl rfl rfl rfl rfl (Nat.le_of_ble_eq_true rfl) (Nat.le_of_ble_eq_true rfl) (decide_eq_true h0) (Nat.le_of_ble_eq_true rfl)) ?_
  exact mThen_eq fun v w9 => mX_maskK lm_147_510 rfl
theorem b_147_510 {d : Nat} {a0 : Nat} {a1 : Nat} {x2 : Int32} {x3 : Nat} {x4 : Nat} {y0 : Int32} {w : MW} (h0 : mTg w a0 = 10) (h1 : mR w a0 14 = some (gR w a0 14)) (h2 : 52 ≤ mTg w (gR w a0 14) ∧ mTg w (gR w a0 14) < 55) (h3 : x3 < 2147483648) (h4 : x3 < mLn w (gR w a0 14)) (h5 : mR w (gR w a0 14) x3 = some (gR w (gR w a0 14) x3)) (h6 : mTg w (gR w (gR w a0 14) x3) = 50) (h7 : x4 < 2147483648) (h8 : x4 < mLn w (gR w (gR w a0 14) x3)) : mX d 147 510 [.ref a0, .ref a1, .int x2, .int (nI x3), .int (nI x4), mJ, mJ, mJ, mJ, mJ, mJ, mJ, mJ] [.int y0] w = (if y0 = (mI w (gR w (gR w a0 14) x3) x4) then mX d 147 524 [.ref a0, .ref a1, .int x2, .int (nI x3), .int (nI x4), mJ, mJ, mJ, mJ, mJ, mJ, mJ, mJ] [] w else mX d 147 522 [mJ, mJ, mJ, mJ, mJ, mJ, mJ, mJ, mJ, mJ, mJ, mJ, mJ] [] w) := by
  refine Eq.trans (X_st f_147_510 rfl rfl) ?_
  refine Eq.trans (X_getR f_147_511 h0 rfl h1) ?_
  refine Eq.trans (X_st f_147_514 rfl rfl) ?_
  refine Eq.trans (X_aald f_147_515 h2 (jnn h3) (jcl h3) h4 h5) ?_
  refine Eq.trans (X_st f_147_516 rfl rfl) ?_
  refine Eq.trans (X_iald f_147_518 h6 (jnn h7) (jcl h7) h8) ?_
  refine Eq.trans (X_br f_147_519 rfl rfl) ?_
  exact mIte_eq (mX_maskK lm_147_524 rfl) (mX_maskK lm_147_522 rfl)
theorem b_147_522 {d : Nat} {w : MW} : mX d 147 522 [mJ, mJ, mJ, mJ, mJ, mJ, mJ, mJ, mJ, mJ, mJ, mJ, mJ] [] w = some (.inl (some (.int (nI 0))), w) := by
  refine Eq.trans (X_iconst f_147_522 kc_i_0) ?_
  exact X_ireturn f_147_523 rfl
theorem b_147_524 {d : Nat} {a0 : Nat} {a1 : Nat} {x2 : Int32} {x3 : Int32} {x4 : Int32} {w : MW} : mX d 147 524 [.ref a0, .ref a1, .int x2, .int x3, .int x4, mJ, mJ, mJ, mJ, mJ, mJ, mJ, mJ] [] w = mX d 147 493 [.ref a0, .ref a1, .int x2, .int x3, .int (x4 + (nI 1)), mJ, mJ, mJ, mJ, mJ, mJ, mJ, mJ] [] w := by
  refine Eq.trans (X_iinc f_147_524 kc_i_1 rfl rfl) ?_
  refine Eq.trans (X_st f_147_527 rfl rfl) ?_
  exact mX_maskK lm_147_493 rfl
theorem b_147_530 {d : Nat} {a0 : Nat} {a1 : Nat} {x2 : Int32} {x3 : Int32} {w : MW} : mX d 147 530 [.ref a0, .ref a1, .int x2, .int x3, mJ, mJ, mJ, mJ, mJ, mJ, mJ, mJ, mJ] [] w = mX d 147 533 [.ref a0, .ref a1, .int x2, .int x3, .int (nI 0), mJ, mJ, mJ, mJ, mJ, mJ, mJ, mJ] [] w := by
  refine Eq.trans (X_iconst f_147_530 kc_i_0) ?_
  refine Eq.trans (X_istore (L' := [.ref a0, .ref a1, .int x2, .int x3, .int (nI 0), mJ, mJ, mJ, mJ, mJ, mJ, mJ, mJ]) f_147_531 (Nat.le_of_ble_eq_true rfl) rfl) ?_
  exact mX_maskK lm_147_533 rfl
theorem b_147_533 {d : Nat} {a0 : Nat} {a1 : Nat} {x2 : Int32} {x3 : Int32} {x4 : Int32} {w : MW} (h0 : mTg w a0 = 10) (h1 : mR w a0 10 = some (gR w a0 10)) (h2 : 50 ≤ mTg w (gR w a0 10) ∧ mTg w (gR w a0 10) < 55) : mX d 147 533 [.ref a0, .ref a1, .int x2, .int x3, .int x4, mJ, mJ, mJ, mJ, mJ, mJ, mJ, mJ] [] w = (if (nI (mLn w (gR w a0 10))) ≤ x4 then mX d 147 568 [.ref a0, .ref a1, .int x2, .int x3, mJ, mJ, mJ, mJ, mJ, mJ, mJ, mJ, mJ] [] w else mX d 147 543 [.ref a0, .ref a1, .int x2, .int x3, .int x4, mJ, mJ, mJ, mJ, mJ, mJ, mJ, mJ] [] w) := by
  refine Eq.trans (X_st f_147_533 rfl rfl) ?_
  refine Eq.trans (X_st f_147_535 rfl rfl) ?_
  refine Eq.trans (X_getR f_147_536 h0 rfl h1) ?_
  refine Eq.trans (X_st f_147_539 rfl (if_pos h2)) ?_
  refine Eq.trans (X_br f_147_540 rfl rfl) ?_
  exact mIte_eq (mX_maskK lm_147_568 rfl) (mX_maskK lm_147_543 rfl)
theorem b_147_543 {d : Nat} {a0 : Nat} {a1 : Nat} {x2 : Int32} {x3 : Int32} {x4 : Int32} {w : MW} (h0 : mTg w a1 = 9) : mX (d + 1) 147 543 [.ref a0, .ref a1, .int x2, .int x3, .int x4, mJ, mJ, mJ, mJ, mJ, mJ, mJ, mJ] [] w = mThen (mK d 106 [.ref a1, .int x3, .int x4] w) (fun v w9 => mX (d + 1) 147 550 [.ref a0, .ref a1, .int x2, .int x3, .int x4, mJ, mJ, mJ, mJ, mJ, mJ, mJ, mJ] (v.toList ++ []) w9) := by
  refine Eq.trans (X_st f_147_543 rfl rfl) ?_
  refine Eq.trans (X_st f_147_544 rfl rfl) ?_
  refine Eq.trans (X_st f_147_545 rfl rfl) ?_
  refine Eq.trans (X_call f_147_547 (by decide) rfl rfl rfl rfl rfl rfl (Nat.le_of_ble_eq_true rfl) (Nat.le_of_ble_eq_true rfl) (decide_eq_true h0) (Nat.le_of_ble_eq_true rfl)) ?_
  exact mThen_eq fun v w9 => mX_maskK lm_147_550 rfl
theorem b_147_550 {d : Nat} {a0 : Nat} {a1 : Nat} {x2 : Int32} {x3 : Int32} {x4 : Int32} {y0 : Int32} {w : MW} (h0 : mTg w a0 = 10) : mX (d + 1) 147 550 [.ref a0, .ref a1, .int x2, .int x3, .int x4, mJ, mJ, mJ, mJ, mJ, mJ, mJ, mJ] [.int y0] w = mThen (mK d 130 [.ref a0, .int x3, .int x4] w) (fun v w9 => mX (d + 1) 147 557 [.ref a0, .ref a1, .int x2, .int x3, .int x4, mJ, mJ, mJ, mJ, mJ, mJ, mJ, mJ] (v.toList ++ [.int y0]) w9) := by
  refine Eq.trans (X_st f_147_550 rfl rfl) ?_
  refine Eq.trans (X_st f_147_551 rfl rfl) ?_
  refine Eq.trans (X_st f_147_552 rfl rfl) ?_
  refine Eq.trans (X_call f_147_554 (by decide) rfl rfl rfl rfl rfl rfl (Nat.le_of_ble_eq_true rfl) (Nat.le_of_ble_eq_true rfl) (decide_eq_true h0) (Nat.le_of_ble_eq_true rfl)) ?_
  exact mThen_eq fun v w9 => mX_maskK lm_147_557 rfl
theorem b_147_557 {d : Nat} {a0 : Nat} {a1 : Nat} {x2 : Int32} {x3 : Int32} {x4 : Int32} {y0 : Int32} {y1 : Int32} {w : MW} : mX d 147 557 [.ref a0, .ref a1, .int x2, .int x3, .int x4, mJ, mJ, mJ, mJ, mJ, mJ, mJ, mJ] [.int y0, .int y1] w = (if y1 = y0 then mX d 147 562 [.ref a0, .ref a1, .int x2, .int x3, .int x4, mJ, mJ, mJ, mJ, mJ, mJ, mJ, mJ] [] w else mX d 147 560 [mJ, mJ, mJ, mJ, mJ, mJ, mJ, mJ, mJ, mJ, mJ, mJ, mJ] [] w) := by
  refine Eq.trans (X_br f_147_557 rfl rfl) ?_
  exact mIte_eq (mX_maskK lm_147_562 rfl) (mX_maskK lm_147_560 rfl)
theorem b_147_560 {d : Nat} {w : MW} : mX d 147 560 [mJ, mJ, mJ, mJ, mJ, mJ, mJ, mJ, mJ, mJ, mJ, mJ, mJ] [] w = some (.inl (some (.int (nI 0))), w) := by
  refine Eq.trans (X_iconst f_147_560 kc_i_0) ?_
  exact X_ireturn f_147_561 rfl
theorem b_147_562 {d : Nat} {a0 : Nat} {a1 : Nat} {x2 : Int32} {x3 : Int32} {x4 : Int32} {w : MW} : mX d 147 562 [.ref a0, .ref a1, .int x2, .int x3, .int x4, mJ, mJ, mJ, mJ, mJ, mJ, mJ, mJ] [] w = mX d 147 533 [.ref a0, .ref a1, .int x2, .int x3, .int (x4 + (nI 1)), mJ, mJ, mJ, mJ, mJ, mJ, mJ, mJ] [] w := by
  refine Eq.trans (X_iinc f_147_562 kc_i_1 rfl rfl) ?_
  refine Eq.trans (X_st f_147_565 rfl rfl) ?_
  exact mX_maskK lm_147_533 rfl
theorem b_147_568 {d : Nat} {a0 : Nat} {a1 : Nat} {x2 : Int32} {x3 : Nat} {w : MW} (h0 : mTg w a0 = 10) (h1 : mR w a0 12 = some (gR w a0 12)) (h2 : 52 ≤ mTg w (gR w a0 12) ∧ mTg w (gR w a0 12) < 55) (h3 : x3 < 2147483648) (h4 : x3 < mLn w (gR w a0 12)) (h5 : mR w (gR w a0 12) x3 = some (gR w (gR w a0 12) x3)) (h6 : mTg w (gR w (gR w a0 12) x3) = 50) (h7 : 1 < mLn w (gR w (gR w a0 12) x3)) : mX d 147 568 [.ref a0, .ref a1, .int x2, .int (nI x3), mJ, mJ, mJ, mJ, mJ, mJ, mJ, mJ, mJ] [] w = mX d 147 387 [.ref a0, .ref a1, .int (x2 + (mI w (gR w (gR w a0 12) x3) 1)), .int ((nI x3) + (nI 1)), mJ, mJ, mJ, mJ, mJ, mJ, mJ, mJ, mJ] [] w := by
  refine Eq.trans (X_st f_147_568 rfl rfl) ?_
  refine Eq.trans (X_st f_147_569 rfl rfl) ?_
  refine Eq.trans (X_getR f_147_570 h0 rfl h1) ?_
  refine Eq.trans (X_st f_147_573 rfl rfl) ?_
  refine Eq.trans (X_aald f_147_574 h2 (jnn h3) (jcl h3) h4 h5) ?_
  refine Eq.trans (X_iconst f_147_575 kc_i_1) ?_
  refine Eq.trans (X_iald f_147_576 h6 kn_1 kl_1 h7) ?_
  refine Eq.trans (X_st f_147_577 rfl rfl) ?_
  refine Eq.trans (X_istore_n (L' := [.ref a0, .ref a1, .int (x2 + (mI w (gR w (gR w a0 12) x3) 1)), .int (nI x3), mJ, mJ, mJ, mJ, mJ, mJ, mJ, mJ, mJ]) f_147_578 (Nat.le_of_ble_eq_true rfl) rfl) ?_
  refine Eq.trans (X_iinc f_147_579 kc_i_1 rfl rfl) ?_
  refine Eq.trans (X_st f_147_582 rfl rfl) ?_
  exact mX_maskK lm_147_387 rfl
theorem b_147_585 {d : Nat} {a0 : Nat} {a1 : Nat} {x2 : Int32} {w : MW} (h0 : mTg w a1 = 9) : mX (d + 1) 147 585 [.ref a0, .ref a1, .int x2, mJ, mJ, mJ, mJ, mJ, mJ, mJ, mJ, mJ, mJ] [] w = mThen (mK d 116 [.ref a1] w) (fun v w9 => mX (d + 1) 147 589 [.ref a0, mJ, .int x2, mJ, mJ, mJ, mJ, mJ, mJ, mJ, mJ, mJ, mJ] (v.toList ++ []) w9) := by
  refine Eq.trans (X_st f_147_585 rfl rfl) ?_
  refine Eq.trans (X_call f_147_586 (by decide) rfl rfl rfl rfl rfl rfl (Nat.le_of_ble_eq_true rfl) (Nat.le_of_ble_eq_true rfl) (decide_eq_true h0) (Nat.le_of_ble_eq_true rfl)) ?_
  exact mThen_eq fun v w9 => mX_maskK lm_147_589 rfl
theorem b_147_589 {d : Nat} {a0 : Nat} {x2 : Int32} {e0 : UInt64} {w : MW} (h0 : mTg w a0 = 10) (h1 : mR w a0 12 = some (gR w a0 12)) (h2 : 50 ≤ mTg w (gR w a0 12) ∧ mTg w (gR w a0 12) < 55) : mX d 147 589 [.ref a0, mJ, .int x2, mJ, mJ, mJ, mJ, mJ, mJ, mJ, mJ, mJ, mJ] [.double e0] w = (if ¬ (nI (mLn w (gR w a0 12))) = nI 0 then mX d 147 601 [.ref a0, mJ, .int x2, mJ, mJ, mJ, mJ, mJ, mJ, mJ, mJ, mJ, mJ] [.double e0] w else mX d 147 597 [mJ, mJ, mJ, mJ, mJ, mJ, mJ, mJ, mJ, mJ, mJ, mJ, mJ] [.double e0] w) := by
  refine Eq.trans (X_st f_147_589 rfl rfl) ?_
  refine Eq.trans (X_getR f_147_590 h0 rfl h1) ?_
  refine Eq.trans (X_st f_147_593 rfl (if_pos h2)) ?_
  refine Eq.trans (X_br f_147_594 rfl rfl) ?_
  exact mIte_eq (mX_maskK lm_147_601 rfl) (mX_maskK lm_147_597 rfl)
theorem b_147_597 {d : Nat} {e0 : UInt64} {w : MW} : mX d 147 597 [mJ, mJ, mJ, mJ, mJ, mJ, mJ, mJ, mJ, mJ, mJ, mJ, mJ] [.double e0] w = mX d 147 610 [mJ, mJ, mJ, mJ, mJ, mJ, mJ, mJ, mJ, mJ, mJ, mJ, mJ] [.double FP.dconst0, .double e0] w := by
  refine Eq.trans (X_dconst f_147_597) ?_
  refine Eq.trans (X_st f_147_598 rfl rfl) ?_
  exact mX_maskK lm_147_610 rfl
theorem b_147_601 {d : Nat} {a0 : Nat} {x2 : Int32} {e0 : UInt64} {w : MW} (h0 : mTg w a0 = 10) (h1 : mR w a0 12 = some (gR w a0 12)) (h2 : 50 ≤ mTg w (gR w a0 12) ∧ mTg w (gR w a0 12) < 55) (h3 : (FP.ddiv (FP.i2d x2) (FP.i2d (nI (mLn w (gR w a0 12))))) &&& 0x7fffffffffffffff ≤ 0x7ff0000000000000) : mX d 147 601 [.ref a0, mJ, .int x2, mJ, mJ, mJ, mJ, mJ, mJ, mJ, mJ, mJ, mJ] [.double e0] w = mX d 147 610 [mJ, mJ, mJ, mJ, mJ, mJ, mJ, mJ, mJ, mJ, mJ, mJ, mJ] [.double (FP.ddiv (FP.i2d x2) (FP.i2d (nI (mLn w (gR w a0 12))))), .double e0] w := by
  refine Eq.trans (X_st f_147_601 rfl rfl) ?_
  refine Eq.trans (X_st f_147_602 rfl rfl) ?_
  refine Eq.trans (X_st f_147_603 rfl rfl) ?_
  refine Eq.trans (X_getR f_147_604 h0 rfl h1) ?_
  refine Eq.trans (X_st f_147_607 rfl (if_pos h2)) ?_
  refine Eq.trans (X_st f_147_608 rfl rfl) ?_
  refine Eq.trans (X_st f_147_609 rfl (if_pos h3)) ?_
  exact mX_maskK lm_147_610 rfl
theorem b_147_610 {d : Nat} {e0 : UInt64} {e1 : UInt64} {w : MW} : mX d 147 610 [mJ, mJ, mJ, mJ, mJ, mJ, mJ, mJ, mJ, mJ, mJ, mJ, mJ] [.double e0, .double e1] w = (if ¬ (Op.cmpValue (FP.dcmp e1 e0) .l) = nI 0 then mX d 147 618 [mJ, mJ, mJ, mJ, mJ, mJ, mJ, mJ, mJ, mJ, mJ, mJ, mJ] [] w else mX d 147 614 [mJ, mJ, mJ, mJ, mJ, mJ, mJ, mJ, mJ, mJ, mJ, mJ, mJ] [] w) := by
  refine Eq.trans (X_st f_147_610 rfl rfl) ?_
  refine Eq.trans (X_br f_147_611 rfl rfl) ?_
  exact mIte_eq (mX_maskK lm_147_618 rfl) (mX_maskK lm_147_614 rfl)
theorem b_147_614 {d : Nat} {w : MW} : mX d 147 614 [mJ, mJ, mJ, mJ, mJ, mJ, mJ, mJ, mJ, mJ, mJ, mJ, mJ] [] w = mX d 147 619 [mJ, mJ, mJ, mJ, mJ, mJ, mJ, mJ, mJ, mJ, mJ, mJ, mJ] [.int (nI 1)] w := by
  refine Eq.trans (X_iconst f_147_614 kc_i_1) ?_
  refine Eq.trans (X_st f_147_615 rfl rfl) ?_
  exact mX_maskK lm_147_619 rfl
theorem b_147_618 {d : Nat} {w : MW} : mX d 147 618 [mJ, mJ, mJ, mJ, mJ, mJ, mJ, mJ, mJ, mJ, mJ, mJ, mJ] [] w = mX d 147 619 [mJ, mJ, mJ, mJ, mJ, mJ, mJ, mJ, mJ, mJ, mJ, mJ, mJ] [.int (nI 0)] w := by
  refine Eq.trans (X_iconst f_147_618 kc_i_0) ?_
  exact mX_maskK lm_147_619 rfl
theorem b_147_619 {d : Nat} {y0 : Int32} {w : MW} (h0 : mRk 2 y0 = true) : mX d 147 619 [mJ, mJ, mJ, mJ, mJ, mJ, mJ, mJ, mJ, mJ, mJ, mJ, mJ] [.int y0] w = some (.inl (some (.int y0)), w) := by
  exact X_ireturn f_147_619 h0
