/-! ===== BLOCKS: by program (wip/p26/blk.py) ===== -/
/-! BeeTurnpike$Bee <init> (LBeeTurnpike$Told;)V -/
theorem f_0_0 : mFetch 0 0 = some (.aload_n 0, 1, []) := by decide +kernel
theorem f_0_1 : mFetch 0 1 = some (.invokespecial 3, 3, [1002, 314]) := by decide +kernel
theorem f_0_4 : mFetch 0 4 = some (.aload_n 0, 1, []) := by decide +kernel
theorem f_0_5 : mFetch 0 5 = some (.new 9, 3, [3, 315]) := by decide +kernel
theorem f_0_8 : mFetch 0 8 = some (.dup, 1, []) := by decide +kernel
theorem f_0_9 : mFetch 0 9 = some (.invokespecial 11, 3, [47, 1, 6, 0, 10, 318]) := by decide +kernel
theorem f_0_12 : mFetch 0 12 = some (.putfield 12, 3, [0, 1, 0, 396]) := by decide +kernel
theorem f_0_15 : mFetch 0 15 = some (.aload_n 0, 1, []) := by decide +kernel
theorem f_0_16 : mFetch 0 16 = some (.bipush 6, 2, []) := by decide +kernel
theorem f_0_18 : mFetch 0 18 = some (.anewarray 18, 3, [53, 328]) := by decide +kernel
theorem f_0_21 : mFetch 0 21 = some (.putfield 20, 3, [0, 2, 0, 397]) := by decide +kernel
theorem f_0_24 : mFetch 0 24 = some (.aload_n 0, 1, []) := by decide +kernel
theorem f_0_25 : mFetch 0 25 = some (.new 18, 3, [4, 328]) := by decide +kernel
theorem f_0_28 : mFetch 0 28 = some (.dup, 1, []) := by decide +kernel
theorem f_0_29 : mFetch 0 29 = some (.invokespecial 24, 3, [52, 1, 6, 0, 11, 332]) := by decide +kernel
theorem f_0_32 : mFetch 0 32 = some (.putfield 25, 3, [0, 3, 0, 398]) := by decide +kernel
theorem f_0_35 : mFetch 0 35 = some (.aload_n 0, 1, []) := by decide +kernel
theorem f_0_36 : mFetch 0 36 = some (.bipush 6, 2, []) := by decide +kernel
theorem f_0_38 : mFetch 0 38 = some (.newarray .int, 2, [50]) := by decide +kernel
theorem f_0_40 : mFetch 0 40 = some (.putfield 29, 3, [0, 4, 0, 399]) := by decide +kernel
theorem f_0_43 : mFetch 0 43 = some (.aload_n 0, 1, []) := by decide +kernel
theorem f_0_44 : mFetch 0 44 = some (.bipush 12, 2, []) := by decide +kernel
theorem f_0_46 : mFetch 0 46 = some (.newarray .int, 2, [50]) := by decide +kernel
theorem f_0_48 : mFetch 0 48 = some (.putfield 33, 3, [0, 5, 0, 400]) := by decide +kernel
theorem f_0_51 : mFetch 0 51 = some (.aload_n 0, 1, []) := by decide +kernel
theorem f_0_52 : mFetch 0 52 = some (.bipush 12, 2, []) := by decide +kernel
theorem f_0_54 : mFetch 0 54 = some (.newarray .int, 2, [50]) := by decide +kernel
theorem f_0_56 : mFetch 0 56 = some (.putfield 36, 3, [0, 6, 0, 402]) := by decide +kernel
theorem f_0_59 : mFetch 0 59 = some (.aload_n 0, 1, []) := by decide +kernel
theorem f_0_60 : mFetch 0 60 = some (.iconst (-1), 1, []) := by decide +kernel
theorem f_0_61 : mFetch 0 61 = some (.putfield 39, 3, [0, 11, 0, 411]) := by decide +kernel
theorem f_0_64 : mFetch 0 64 = some (.aload_n 0, 1, []) := by decide +kernel
theorem f_0_65 : mFetch 0 65 = some (.aload_n 1, 1, []) := by decide +kernel
theorem f_0_66 : mFetch 0 66 = some (.putfield 43, 3, [0, 0, 0, 394]) := by decide +kernel
theorem f_0_69 : mFetch 0 69 = some (.iconst 0, 1, []) := by decide +kernel
theorem f_0_70 : mFetch 0 70 = some (.istore_n 2, 1, []) := by decide +kernel
theorem f_0_71 : mFetch 0 71 = some (.iload_n 2, 1, []) := by decide +kernel
theorem f_0_72 : mFetch 0 72 = some (.aload_n 0, 1, []) := by decide +kernel
theorem f_0_73 : mFetch 0 73 = some (.getfield 20, 3, [0, 2, 0, 397]) := by decide +kernel
theorem f_0_76 : mFetch 0 76 = some (.arraylength, 1, []) := by decide +kernel
theorem f_0_77 : mFetch 0 77 = some (.if_icmp .ge 22, 3, [99]) := by decide +kernel
theorem f_0_80 : mFetch 0 80 = some (.aload_n 0, 1, []) := by decide +kernel
theorem f_0_81 : mFetch 0 81 = some (.getfield 20, 3, [0, 2, 0, 397]) := by decide +kernel
theorem f_0_84 : mFetch 0 84 = some (.iload_n 2, 1, []) := by decide +kernel
theorem f_0_85 : mFetch 0 85 = some (.new 18, 3, [4, 328]) := by decide +kernel
theorem f_0_88 : mFetch 0 88 = some (.dup, 1, []) := by decide +kernel
theorem f_0_89 : mFetch 0 89 = some (.invokespecial 24, 3, [52, 1, 6, 0, 11, 332]) := by decide +kernel
theorem f_0_92 : mFetch 0 92 = some (.aastore, 1, []) := by decide +kernel
theorem f_0_93 : mFetch 0 93 = some (.iinc 2 1, 3, []) := by decide +kernel
theorem f_0_96 : mFetch 0 96 = some (.goto (-25), 3, [71]) := by decide +kernel
theorem f_0_99 : mFetch 0 99 = some (.return_, 1, []) := by decide +kernel
theorem b_0_0 {d : Nat} {a0 : Nat} {a1 : Nat} {w : MW} (h0 : mE ≤ a0) (h1 : mE ≤ (mSz w)) : mX (d + 1) 0 0 [.ref a0, .ref a1, mJ] [] w = mThen (mK d 47 [.ref (mSz w)] (wN w 3 0 (mNf 3))) (fun v w9 => mX (d + 1) 0 12 [.ref a0, .ref a1, mJ] (v.toList ++ [.ref (mSz w), .ref a0]) w9) := by
  refine Eq.trans (X_st f_0_0 rfl rfl) ?_
  refine Eq.trans (X_st f_0_1 rfl (if_pos ⟨h0, Nat.le_of_ble_eq_true rfl⟩)) ?_
  refine Eq.trans (X_st f_0_4 rfl rfl) ?_
  refine Eq.trans (X_new f_0_5 (Nat.le_of_ble_eq_true rfl)) ?_
  refine Eq.trans (X_dup f_0_8 rfl) ?_
  refine Eq.trans (X_call f_0_9 (by decide) rfl rfl rfl rfl rfl rfl (Nat.le_of_ble_eq_true rfl) (Nat.le_of_ble_eq_true rfl) (decide_eq_true h1) (Nat.le_of_ble_eq_true rfl)) ?_
  exact mThen_eq fun v w9 => mX_mask rfl
theorem e_0 {d : Nat} {a0 : Nat} {a1 : Nat} {w : MW} : mK d 0 [.ref a0, .ref a1] w = mX d 0 0 [.ref a0, .ref a1, mJ] [] w := rfl
theorem b_0_12 {d : Nat} {a0 : Nat} {a1 : Nat} {b0 : Nat} {b1 : Nat} {w : MW} (h0 : mTg w b1 = 0) (h1 : mE ≤ b1) (h2 : mTg (wN (wR w b1 1 (some b0)) 53 6 6) a0 = 0) (h3 : mE ≤ a0) (h4 : mE ≤ (mSz (wR (wN (wR w b1 1 (some b0)) 53 6 6) a0 2 (some (mSz (wR w b1 1 (some b0))))))) : mX (d + 1) 0 12 [.ref a0, .ref a1, mJ] [.ref b0, .ref b1] w = mThen (mK d 52 [.ref (mSz (wR (wN (wR w b1 1 (some b0)) 53 6 6) a0 2 (some (mSz (wR w b1 1 (some b0))))))] (wN (wR (wN (wR w b1 1 (some b0)) 53 6 6) a0 2 (some (mSz (wR w b1 1 (some b0))))) 4 0 (mNf 4))) (fun v w9 => mX (d + 1) 0 32 [.ref a0, .ref a1, mJ] (v.toList ++ [.ref (mSz (wR (wN (wR w b1 1 (some b0)) 53 6 6) a0 2 (some (mSz (wR w b1 1 (some b0)))))), .ref a0]) w9) := by
  refine Eq.trans (X_putR f_0_12 h0 h1 rfl) ?_
  refine Eq.trans (X_st f_0_15 rfl rfl) ?_
  refine Eq.trans (X_bipush f_0_16 kc_b_6) ?_
  refine Eq.trans (X_newq f_0_18 kn_6 kl_6 (Nat.le_of_ble_eq_true rfl)) ?_
  refine Eq.trans (X_putR f_0_21 h2 h3 rfl) ?_
  refine Eq.trans (X_st f_0_24 rfl rfl) ?_
  refine Eq.trans (X_new f_0_25 (Nat.le_of_ble_eq_true rfl)) ?_
  refine Eq.trans (X_dup f_0_28 rfl) ?_
  refine Eq.trans (X_call f_0_29 (by decide) rfl rfl rfl rfl rfl rfl (Nat.le_of_ble_eq_true rfl) (Nat.le_of_ble_eq_true rfl) (decide_eq_true h4) (Nat.le_of_ble_eq_true rfl)) ?_
  exact mThen_eq fun v w9 => mX_mask rfl
theorem b_0_32 {d : Nat} {a0 : Nat} {a1 : Nat} {b0 : Nat} {b1 : Nat} {w : MW} (h0 : mTg w b1 = 0) (h1 : mE ≤ b1) (h2 : mTg (wN (wR w b1 3 (some b0)) 50 6 6) a0 = 0) (h3 : mE ≤ a0) (h4 : mTg (wN (wR (wN (wR w b1 3 (some b0)) 50 6 6) a0 4 (some (mSz (wR w b1 3 (some b0))))) 50 12 12) a0 = 0) : mX d 0 32 [.ref a0, .ref a1, mJ] [.ref b0, .ref b1] w = mX d 0 51 [.ref a0, .ref a1, mJ] [] (wR (wN (wR (wN (wR w b1 3 (some b0)) 50 6 6) a0 4 (some (mSz (wR w b1 3 (some b0))))) 50 12 12) a0 5 (some (mSz (wR (wN (wR w b1 3 (some b0)) 50 6 6) a0 4 (some (mSz (wR w b1 3 (some b0)))))))) := by
  refine Eq.trans (X_putR f_0_32 h0 h1 rfl) ?_
  refine Eq.trans (X_st f_0_35 rfl rfl) ?_
  refine Eq.trans (X_bipush f_0_36 kc_b_6) ?_
  refine Eq.trans (X_newa f_0_38 kn_6 kl_6 (Nat.le_of_ble_eq_true rfl)) ?_
  refine Eq.trans (X_putR f_0_40 h2 h3 rfl) ?_
  refine Eq.trans (X_st f_0_43 rfl rfl) ?_
  refine Eq.trans (X_bipush f_0_44 kc_b_12) ?_
  refine Eq.trans (X_newa f_0_46 kn_12 kl_12 (Nat.le_of_ble_eq_true rfl)) ?_
  refine Eq.trans (X_putR f_0_48 h4 h3 rfl) ?_
  exact mX_mask rfl
theorem b_0_51 {d : Nat} {a0 : Nat} {a1 : Nat} {w : MW} (h0 : mTg (wN w 50 12 12) a0 = 0) (h1 : mE ≤ a0) (h2 : mTg (wR (wN w 50 12 12) a0 6 (some (mSz w))) a0 = 0) (h3 : mTg (wI (wR (wN w 50 12 12) a0 6 (some (mSz w))) a0 11 (-1 : Int32)) a0 = 0) : mX d 0 51 [.ref a0, .ref a1, mJ] [] w = mX d 0 71 [.ref a0, mJ, .int (nI 0)] [] (wR (wI (wR (wN w 50 12 12) a0 6 (some (mSz w))) a0 11 (-1 : Int32)) a0 0 (some a1)) := by
  refine Eq.trans (X_st f_0_51 rfl rfl) ?_
  refine Eq.trans (X_bipush f_0_52 kc_b_12) ?_
  refine Eq.trans (X_newa f_0_54 kn_12 kl_12 (Nat.le_of_ble_eq_true rfl)) ?_
  refine Eq.trans (X_putR f_0_56 h0 h1 rfl) ?_
  refine Eq.trans (X_st f_0_59 rfl rfl) ?_
  refine Eq.trans (X_iconst f_0_60 kc_i_m1) ?_
  refine Eq.trans (X_putI f_0_61 h2 h1 rfl rfl) ?_
  refine Eq.trans (X_st f_0_64 rfl rfl) ?_
  refine Eq.trans (X_st f_0_65 rfl rfl) ?_
  refine Eq.trans (X_putR f_0_66 h3 h1 rfl) ?_
  refine Eq.trans (X_iconst f_0_69 kc_i_0) ?_
  refine Eq.trans (X_istore_n (L' := [.ref a0, .ref a1, .int (nI 0)]) f_0_70 (Nat.le_of_ble_eq_true rfl) rfl) ?_
  exact mX_mask rfl
theorem b_0_71 {d : Nat} {a0 : Nat} {x2 : Int32} {w : MW} (h0 : mTg w a0 = 0) (h1 : mR w a0 2 = some (gR w a0 2)) (h2 : 50 ≤ mTg w (gR w a0 2) ∧ mTg w (gR w a0 2) < 55) : mX d 0 71 [.ref a0, mJ, .int x2] [] w = (if (nI (mLn w (gR w a0 2))) ≤ x2 then mX d 0 99 [mJ, mJ, mJ] [] w else mX d 0 80 [.ref a0, mJ, .int x2] [] w) := by
  refine Eq.trans (X_st f_0_71 rfl rfl) ?_
  refine Eq.trans (X_st f_0_72 rfl rfl) ?_
  refine Eq.trans (X_getR f_0_73 h0 rfl h1) ?_
  refine Eq.trans (X_st f_0_76 rfl (if_pos h2)) ?_
  refine Eq.trans (X_br f_0_77 rfl rfl) ?_
  exact mIte_eq (mX_mask rfl) (mX_mask rfl)
theorem b_0_80 {d : Nat} {a0 : Nat} {x2 : Int32} {w : MW} (h0 : mTg w a0 = 0) (h1 : mR w a0 2 = some (gR w a0 2)) (h2 : mE ≤ (mSz w)) : mX (d + 1) 0 80 [.ref a0, mJ, .int x2] [] w = mThen (mK d 52 [.ref (mSz w)] (wN w 4 0 (mNf 4))) (fun v w9 => mX (d + 1) 0 92 [.ref a0, mJ, .int x2] (v.toList ++ [.ref (mSz w), .int x2, .ref (gR w a0 2)]) w9) := by
  refine Eq.trans (X_st f_0_80 rfl rfl) ?_
  refine Eq.trans (X_getR f_0_81 h0 rfl h1) ?_
  refine Eq.trans (X_st f_0_84 rfl rfl) ?_
  refine Eq.trans (X_new f_0_85 (Nat.le_of_ble_eq_true rfl)) ?_
  refine Eq.trans (X_dup f_0_88 rfl) ?_
  refine Eq.trans (X_call f_0_89 (by decide) rfl rfl rfl rfl rfl rfl (Nat.le_of_ble_eq_true rfl) (Nat.le_of_ble_eq_true rfl) (decide_eq_true h2) (Nat.le_of_ble_eq_true rfl)) ?_
  exact mThen_eq fun v w9 => mX_mask rfl
theorem b_0_92 {d : Nat} {a0 : Nat} {x2 : Int32} {b0 : Nat} {y1 : Int32} {b2 : Nat} {w : MW} (h0 : mTg w b2 = 52 ∧ mTg w b0 = 50 ∧ mE ≤ b0 ∨ mTg w b2 = 53 ∧ mTg w b0 = 4 ∨ mTg w b2 = 54 ∧ mTg w b0 = 11) (h1 : ¬ y1 < nI 0) (h2 : y1.toNatClampNeg < mLn w b2) : mX d 0 92 [.ref a0, mJ, .int x2] [.ref b0, .int y1, .ref b2] w = mX d 0 71 [.ref a0, mJ, .int (x2 + (nI 1))] [] (wR w b2 y1.toNatClampNeg (some b0)) := by
  refine Eq.trans (X_aast f_0_92 h0 h1 rfl h2) ?_
  refine Eq.trans (X_iinc f_0_93 kc_i_1 rfl rfl) ?_
  refine Eq.trans (X_st f_0_96 rfl rfl) ?_
  exact mX_mask rfl
theorem b_0_99 {d : Nat} {w : MW} : mX d 0 99 [mJ, mJ, mJ] [] w = some (.inl none, w) := by
  exact X_ret f_0_99 rfl rfl
/-! BeeTurnpike$Bee spellerAt (I)LBeeTurnpike$Speller; -/
theorem f_1_0 : mFetch 1 0 = some (.iload_n 1, 1, []) := by decide +kernel
theorem f_1_1 : mFetch 1 1 = some (.ifCond .lt 12, 3, [13]) := by decide +kernel
theorem f_1_4 : mFetch 1 4 = some (.iload_n 1, 1, []) := by decide +kernel
theorem f_1_5 : mFetch 1 5 = some (.aload_n 0, 1, []) := by decide +kernel
theorem f_1_6 : mFetch 1 6 = some (.getfield 20, 3, [0, 2, 0, 397]) := by decide +kernel
theorem f_1_9 : mFetch 1 9 = some (.arraylength, 1, []) := by decide +kernel
theorem f_1_10 : mFetch 1 10 = some (.if_icmp .lt 8, 3, [18]) := by decide +kernel
theorem f_1_13 : mFetch 1 13 = some (.aload_n 0, 1, []) := by decide +kernel
theorem f_1_14 : mFetch 1 14 = some (.getfield 25, 3, [0, 3, 0, 398]) := by decide +kernel
theorem f_1_17 : mFetch 1 17 = some (.areturn, 1, []) := by decide +kernel
theorem f_1_18 : mFetch 1 18 = some (.aload_n 0, 1, []) := by decide +kernel
theorem f_1_19 : mFetch 1 19 = some (.getfield 20, 3, [0, 2, 0, 397]) := by decide +kernel
theorem f_1_22 : mFetch 1 22 = some (.iload_n 1, 1, []) := by decide +kernel
theorem f_1_23 : mFetch 1 23 = some (.aaload, 1, []) := by decide +kernel
theorem f_1_24 : mFetch 1 24 = some (.astore_n 2, 1, []) := by decide +kernel
theorem f_1_25 : mFetch 1 25 = some (.aload_n 2, 1, []) := by decide +kernel
theorem f_1_26 : mFetch 1 26 = some (.ifnonnull 10, 3, [36]) := by decide +kernel
theorem f_1_29 : mFetch 1 29 = some (.aload_n 0, 1, []) := by decide +kernel
theorem f_1_30 : mFetch 1 30 = some (.getfield 25, 3, [0, 3, 0, 398]) := by decide +kernel
theorem f_1_33 : mFetch 1 33 = some (.goto 4, 3, [37]) := by decide +kernel
theorem f_1_36 : mFetch 1 36 = some (.aload_n 2, 1, []) := by decide +kernel
theorem f_1_37 : mFetch 1 37 = some (.areturn, 1, []) := by decide +kernel
theorem b_1_0 {d : Nat} {a0 : Nat} {x1 : Int32} {w : MW} : mX d 1 0 [.ref a0, .int x1, mJ] [] w = (if x1 < nI 0 then mX d 1 13 [.ref a0, mJ, mJ] [] w else mX d 1 4 [.ref a0, .int x1, mJ] [] w) := by
  refine Eq.trans (X_st f_1_0 rfl rfl) ?_
  refine Eq.trans (X_br f_1_1 rfl rfl) ?_
  exact mIte_eq (mX_mask rfl) (mX_mask rfl)
theorem e_1 {d : Nat} {a0 : Nat} {x1 : Int32} {w : MW} : mK d 1 [.ref a0, .int x1] w = mX d 1 0 [.ref a0, .int x1, mJ] [] w := rfl
theorem b_1_4 {d : Nat} {a0 : Nat} {x1 : Int32} {w : MW} (h0 : mTg w a0 = 0) (h1 : mR w a0 2 = some (gR w a0 2)) (h2 : 50 ≤ mTg w (gR w a0 2) ∧ mTg w (gR w a0 2) < 55) : mX d 1 4 [.ref a0, .int x1, mJ] [] w = (if x1 < (nI (mLn w (gR w a0 2))) then mX d 1 18 [.ref a0, .int x1, mJ] [] w else mX d 1 13 [.ref a0, mJ, mJ] [] w) := by
  refine Eq.trans (X_st f_1_4 rfl rfl) ?_
  refine Eq.trans (X_st f_1_5 rfl rfl) ?_
  refine Eq.trans (X_getR f_1_6 h0 rfl h1) ?_
  refine Eq.trans (X_st f_1_9 rfl (if_pos h2)) ?_
  refine Eq.trans (X_br f_1_10 rfl rfl) ?_
  exact mIte_eq (mX_mask rfl) (mX_mask rfl)
theorem b_1_13 {d : Nat} {a0 : Nat} {w : MW} (h0 : mTg w a0 = 0) (h1 : mR w a0 3 = some (gR w a0 3)) : mX d 1 13 [.ref a0, mJ, mJ] [] w = some (.inl (some (.ref (gR w a0 3))), w) := by
  refine Eq.trans (X_st f_1_13 rfl rfl) ?_
  refine Eq.trans (X_getR f_1_14 h0 rfl h1) ?_
  exact X_ret f_1_17 rfl rfl
theorem b_1_18 {d : Nat} {a0 : Nat} {x1 : Int32} {w : MW} (h0 : mTg w a0 = 0) (h1 : mR w a0 2 = some (gR w a0 2)) (h2 : 52 ≤ mTg w (gR w a0 2) ∧ mTg w (gR w a0 2) < 55) (h3 : ¬ x1 < nI 0) (h4 : x1.toNatClampNeg < mLn w (gR w a0 2)) (h5 : mR w (gR w a0 2) x1.toNatClampNeg = some (gR w (gR w a0 2) x1.toNatClampNeg)) (h6 : ¬ (gR w (gR w a0 2) x1.toNatClampNeg) = 0) : mX d 1 18 [.ref a0, .int x1, mJ] [] w = mX d 1 36 [mJ, mJ, .ref (gR w (gR w a0 2) x1.toNatClampNeg)] [] w := by
  refine Eq.trans (X_st f_1_18 rfl rfl) ?_
  refine Eq.trans (X_getR f_1_19 h0 rfl h1) ?_
  refine Eq.trans (X_st f_1_22 rfl rfl) ?_
  refine Eq.trans (X_aald f_1_23 h2 h3 rfl h4 h5) ?_
  refine Eq.trans (X_astore_n (L' := [.ref a0, .int x1, .ref (gR w (gR w a0 2) x1.toNatClampNeg)]) f_1_24 (Nat.le_of_ble_eq_true rfl) rfl) ?_
  refine Eq.trans (X_st f_1_25 rfl rfl) ?_
  refine Eq.trans (X_st f_1_26 rfl (if_neg h6)) ?_
  exact mX_mask rfl
theorem b_1_29 {d : Nat} {a0 : Nat} {w : MW} (h0 : mTg w a0 = 0) (h1 : mR w a0 3 = some (gR w a0 3)) : mX d 1 29 [.ref a0, mJ, mJ] [] w = mX d 1 37 [mJ, mJ, mJ] [.ref (gR w a0 3)] w := by
  refine Eq.trans (X_st f_1_29 rfl rfl) ?_
  refine Eq.trans (X_getR f_1_30 h0 rfl h1) ?_
  refine Eq.trans (X_st f_1_33 rfl rfl) ?_
  exact mX_mask rfl
theorem b_1_36 {d : Nat} {a2 : Nat} {w : MW} : mX d 1 36 [mJ, mJ, .ref a2] [] w = mX d 1 37 [mJ, mJ, mJ] [.ref a2] w := by
  refine Eq.trans (X_st f_1_36 rfl rfl) ?_
  exact mX_mask rfl
theorem b_1_37 {d : Nat} {b0 : Nat} {w : MW} : mX d 1 37 [mJ, mJ, mJ] [.ref b0] w = some (.inl (some (.ref b0)), w) := by
  exact X_ret f_1_37 rfl rfl
/-! BeeTurnpike$Bee begin ()V -/
theorem f_2_0 : mFetch 2 0 = some (.aload_n 0, 1, []) := by decide +kernel
theorem f_2_1 : mFetch 2 1 = some (.iconst 0, 1, []) := by decide +kernel
theorem f_2_2 : mFetch 2 2 = some (.putfield 47, 3, [0, 7, 0, 405]) := by decide +kernel
theorem f_2_5 : mFetch 2 5 = some (.aload_n 0, 1, []) := by decide +kernel
theorem f_2_6 : mFetch 2 6 = some (.iconst 0, 1, []) := by decide +kernel
theorem f_2_7 : mFetch 2 7 = some (.putfield 50, 3, [0, 8, 0, 407]) := by decide +kernel
theorem f_2_10 : mFetch 2 10 = some (.aload_n 0, 1, []) := by decide +kernel
theorem f_2_11 : mFetch 2 11 = some (.iconst 0, 1, []) := by decide +kernel
theorem f_2_12 : mFetch 2 12 = some (.putfield 53, 3, [0, 9, 0, 409]) := by decide +kernel
theorem f_2_15 : mFetch 2 15 = some (.aload_n 0, 1, []) := by decide +kernel
theorem f_2_16 : mFetch 2 16 = some (.iconst 0, 1, []) := by decide +kernel
theorem f_2_17 : mFetch 2 17 = some (.putfield 56, 3, [0, 10, 0, 410]) := by decide +kernel
theorem f_2_20 : mFetch 2 20 = some (.aload_n 0, 1, []) := by decide +kernel
theorem f_2_21 : mFetch 2 21 = some (.iconst 0, 1, []) := by decide +kernel
theorem f_2_22 : mFetch 2 22 = some (.putfield 59, 3, [0, 12, 0, 414]) := by decide +kernel
theorem f_2_25 : mFetch 2 25 = some (.aload_n 0, 1, []) := by decide +kernel
theorem f_2_26 : mFetch 2 26 = some (.iconst 0, 1, []) := by decide +kernel
theorem f_2_27 : mFetch 2 27 = some (.putfield 62, 3, [0, 13, 0, 415]) := by decide +kernel
theorem f_2_30 : mFetch 2 30 = some (.aload_n 0, 1, []) := by decide +kernel
theorem f_2_31 : mFetch 2 31 = some (.getfield 29, 3, [0, 4, 0, 399]) := by decide +kernel
theorem f_2_34 : mFetch 2 34 = some (.iconst 0, 1, []) := by decide +kernel
theorem f_2_35 : mFetch 2 35 = some (.invokestatic 66, 3, [188, 2, 0, 0, 1309, 1239]) := by decide +kernel
theorem f_2_38 : mFetch 2 38 = some (.aload_n 0, 1, []) := by decide +kernel
theorem f_2_39 : mFetch 2 39 = some (.getfield 33, 3, [0, 5, 0, 400]) := by decide +kernel
theorem f_2_42 : mFetch 2 42 = some (.iconst 0, 1, []) := by decide +kernel
theorem f_2_43 : mFetch 2 43 = some (.invokestatic 66, 3, [188, 2, 0, 0, 1309, 1239]) := by decide +kernel
theorem f_2_46 : mFetch 2 46 = some (.aload_n 0, 1, []) := by decide +kernel
theorem f_2_47 : mFetch 2 47 = some (.getfield 36, 3, [0, 6, 0, 402]) := by decide +kernel
theorem f_2_50 : mFetch 2 50 = some (.iconst 0, 1, []) := by decide +kernel
theorem f_2_51 : mFetch 2 51 = some (.invokestatic 66, 3, [188, 2, 0, 0, 1309, 1239]) := by decide +kernel
theorem f_2_54 : mFetch 2 54 = some (.iconst 0, 1, []) := by decide +kernel
theorem f_2_55 : mFetch 2 55 = some (.istore_n 1, 1, []) := by decide +kernel
theorem f_2_56 : mFetch 2 56 = some (.iload_n 1, 1, []) := by decide +kernel
theorem f_2_57 : mFetch 2 57 = some (.bipush 6, 2, []) := by decide +kernel
theorem f_2_59 : mFetch 2 59 = some (.if_icmp .ge 22, 3, [81]) := by decide +kernel
theorem f_2_62 : mFetch 2 62 = some (.aload_n 0, 1, []) := by decide +kernel
theorem f_2_63 : mFetch 2 63 = some (.iload_n 1, 1, []) := by decide +kernel
theorem f_2_64 : mFetch 2 64 = some (.invokevirtual 72, 3, [1, 2, 2, 0, 575, 576, 577]) := by decide +kernel
theorem f_2_67 : mFetch 2 67 = some (.aload_n 0, 1, []) := by decide +kernel
theorem f_2_68 : mFetch 2 68 = some (.getfield 43, 3, [0, 0, 0, 394]) := by decide +kernel
theorem f_2_71 : mFetch 2 71 = some (.iload_n 1, 1, []) := by decide +kernel
theorem f_2_72 : mFetch 2 72 = some (.invokevirtual 76, 3, [53, 3, 2, 4, 1310, 1311, 1312]) := by decide +kernel
theorem f_2_75 : mFetch 2 75 = some (.iinc 1 1, 3, []) := by decide +kernel
theorem f_2_78 : mFetch 2 78 = some (.goto (-22), 3, [56]) := by decide +kernel
theorem f_2_81 : mFetch 2 81 = some (.aload_n 0, 1, []) := by decide +kernel
theorem f_2_82 : mFetch 2 82 = some (.aload_n 0, 1, []) := by decide +kernel
theorem f_2_83 : mFetch 2 83 = some (.invokevirtual 80, 3, [6, 1, 2, 0, 570, 571, 572]) := by decide +kernel
theorem f_2_86 : mFetch 2 86 = some (.iconst 2, 1, []) := by decide +kernel
theorem f_2_87 : mFetch 2 87 = some (.if_icmp .lt 14, 3, [101]) := by decide +kernel
theorem f_2_90 : mFetch 2 90 = some (.aload_n 0, 1, []) := by decide +kernel
theorem f_2_91 : mFetch 2 91 = some (.getfield 43, 3, [0, 0, 0, 394]) := by decide +kernel
theorem f_2_94 : mFetch 2 94 = some (.iconst 4, 1, []) := by decide +kernel
theorem f_2_95 : mFetch 2 95 = some (.invokevirtual 84, 3, [85, 2, 2, 8, 574, 562, 563]) := by decide +kernel
theorem f_2_98 : mFetch 2 98 = some (.ifCond .ne 7, 3, [105]) := by decide +kernel
theorem f_2_101 : mFetch 2 101 = some (.iconst (-1), 1, []) := by decide +kernel
theorem f_2_102 : mFetch 2 102 = some (.goto 8, 3, [110]) := by decide +kernel
theorem f_2_105 : mFetch 2 105 = some (.aload_n 0, 1, []) := by decide +kernel
theorem f_2_106 : mFetch 2 106 = some (.iconst 0, 1, []) := by decide +kernel
theorem f_2_107 : mFetch 2 107 = some (.invokevirtual 90, 3, [7, 2, 2, 0, 745, 747, 19]) := by decide +kernel
theorem f_2_110 : mFetch 2 110 = some (.putfield 39, 3, [0, 11, 0, 411]) := by decide +kernel
theorem f_2_113 : mFetch 2 113 = some (.return_, 1, []) := by decide +kernel
theorem b_2_0 {d : Nat} {a0 : Nat} {w : MW} (h0 : mTg w a0 = 0) (h1 : mE ≤ a0) (h2 : mTg (wI w a0 7 (nI 0)) a0 = 0) (h3 : mTg (wI (wI w a0 7 (nI 0)) a0 8 (nI 0)) a0 = 0) (h4 : mTg (wI (wI (wI w a0 7 (nI 0)) a0 8 (nI 0)) a0 9 (nI 0)) a0 = 0) (h5 : mTg (wI (wI (wI (wI w a0 7 (nI 0)) a0 8 (nI 0)) a0 9 (nI 0)) a0 10 (nI 0)) a0 = 0) (h6 : mTg (wI (wI (wI (wI (wI w a0 7 (nI 0)) a0 8 (nI 0)) a0 9 (nI 0)) a0 10 (nI 0)) a0 12 (nI 0)) a0 = 0) (h7 : mTg (wI (wI (wI (wI (wI (wI w a0 7 (nI 0)) a0 8 (nI 0)) a0 9 (nI 0)) a0 10 (nI 0)) a0 12 (nI 0)) a0 13 (nI 0)) a0 = 0) (h8 : mR (wI (wI (wI (wI (wI (wI w a0 7 (nI 0)) a0 8 (nI 0)) a0 9 (nI 0)) a0 10 (nI 0)) a0 12 (nI 0)) a0 13 (nI 0)) a0 4 = some (gR (wI (wI (wI (wI (wI (wI w a0 7 (nI 0)) a0 8 (nI 0)) a0 9 (nI 0)) a0 10 (nI 0)) a0 12 (nI 0)) a0 13 (nI 0)) a0 4)) : mX (d + 1) 2 0 [.ref a0, mJ] [] w = mThen (mK d 188 [.ref (gR (wI (wI (wI (wI (wI (wI w a0 7 (nI 0)) a0 8 (nI 0)) a0 9 (nI 0)) a0 10 (nI 0)) a0 12 (nI 0)) a0 13 (nI 0)) a0 4), .int (nI 0)] (wI (wI (wI (wI (wI (wI w a0 7 (nI 0)) a0 8 (nI 0)) a0 9 (nI 0)) a0 10 (nI 0)) a0 12 (nI 0)) a0 13 (nI 0))) (fun v w9 => mX (d + 1) 2 38 [.ref a0, mJ] (v.toList ++ []) w9) := by
  refine Eq.trans (X_st f_2_0 rfl rfl) ?_
  refine Eq.trans (X_iconst f_2_1 kc_i_0) ?_
  refine Eq.trans (X_putI f_2_2 h0 h1 rfl rfl) ?_
  refine Eq.trans (X_st f_2_5 rfl rfl) ?_
  refine Eq.trans (X_iconst f_2_6 kc_i_0) ?_
  refine Eq.trans (X_putI f_2_7 h2 h1 rfl rfl) ?_
  refine Eq.trans (X_st f_2_10 rfl rfl) ?_
  refine Eq.trans (X_iconst f_2_11 kc_i_0) ?_
  refine Eq.trans (X_putI f_2_12 h3 h1 rfl rfl) ?_
  refine Eq.trans (X_st f_2_15 rfl rfl) ?_
  refine Eq.trans (X_iconst f_2_16 kc_i_0) ?_
  refine Eq.trans (X_putI f_2_17 h4 h1 rfl rfl) ?_
  refine Eq.trans (X_st f_2_20 rfl rfl) ?_
  refine Eq.trans (X_iconst f_2_21 kc_i_0) ?_
  refine Eq.trans (X_putI f_2_22 h5 h1 rfl rfl) ?_
  refine Eq.trans (X_st f_2_25 rfl rfl) ?_
  refine Eq.trans (X_iconst f_2_26 kc_i_0) ?_
  refine Eq.trans (X_putI f_2_27 h6 h1 rfl rfl) ?_
  refine Eq.trans (X_st f_2_30 rfl rfl) ?_
  refine Eq.trans (X_getR f_2_31 h7 rfl h8) ?_
  refine Eq.trans (X_iconst f_2_34 kc_i_0) ?_
  refine Eq.trans (X_call f_2_35 (by decide) rfl rfl rfl rfl rfl rfl (Nat.le_of_ble_eq_true rfl) (Nat.le_of_ble_eq_true rfl) rfl (Nat.le_of_ble_eq_true rfl)) ?_
  exact mThen_eq fun v w9 => mX_mask rfl
theorem e_2 {d : Nat} {a0 : Nat} {w : MW} : mK d 2 [.ref a0] w = mX d 2 0 [.ref a0, mJ] [] w := rfl
theorem b_2_38 {d : Nat} {a0 : Nat} {w : MW} (h0 : mTg w a0 = 0) (h1 : mR w a0 5 = some (gR w a0 5)) : mX (d + 1) 2 38 [.ref a0, mJ] [] w = mThen (mK d 188 [.ref (gR w a0 5), .int (nI 0)] w) (fun v w9 => mX (d + 1) 2 46 [.ref a0, mJ] (v.toList ++ []) w9) := by
  refine Eq.trans (X_st f_2_38 rfl rfl) ?_
  refine Eq.trans (X_getR f_2_39 h0 rfl h1) ?_
  refine Eq.trans (X_iconst f_2_42 kc_i_0) ?_
  refine Eq.trans (X_call f_2_43 (by decide) rfl rfl rfl rfl rfl rfl (Nat.le_of_ble_eq_true rfl) (Nat.le_of_ble_eq_true rfl) rfl (Nat.le_of_ble_eq_true rfl)) ?_
  exact mThen_eq fun v w9 => mX_mask rfl
theorem b_2_46 {d : Nat} {a0 : Nat} {w : MW} (h0 : mTg w a0 = 0) (h1 : mR w a0 6 = some (gR w a0 6)) : mX (d + 1) 2 46 [.ref a0, mJ] [] w = mThen (mK d 188 [.ref (gR w a0 6), .int (nI 0)] w) (fun v w9 => mX (d + 1) 2 54 [.ref a0, mJ] (v.toList ++ []) w9) := by
  refine Eq.trans (X_st f_2_46 rfl rfl) ?_
  refine Eq.trans (X_getR f_2_47 h0 rfl h1) ?_
  refine Eq.trans (X_iconst f_2_50 kc_i_0) ?_
  refine Eq.trans (X_call f_2_51 (by decide) rfl rfl rfl rfl rfl rfl (Nat.le_of_ble_eq_true rfl) (Nat.le_of_ble_eq_true rfl) rfl (Nat.le_of_ble_eq_true rfl)) ?_
  exact mThen_eq fun v w9 => mX_mask rfl
theorem b_2_54 {d : Nat} {a0 : Nat} {w : MW} : mX d 2 54 [.ref a0, mJ] [] w = mX d 2 56 [.ref a0, .int (nI 0)] [] w := by
  refine Eq.trans (X_iconst f_2_54 kc_i_0) ?_
  refine Eq.trans (X_istore_n (L' := [.ref a0, .int (nI 0)]) f_2_55 (Nat.le_of_ble_eq_true rfl) rfl) ?_
  exact mX_mask rfl
theorem b_2_56 {d : Nat} {a0 : Nat} {x1 : Int32} {w : MW} : mX d 2 56 [.ref a0, .int x1] [] w = (if (nI 6) ≤ x1 then mX d 2 81 [.ref a0, mJ] [] w else mX d 2 62 [.ref a0, .int x1] [] w) := by
  refine Eq.trans (X_st f_2_56 rfl rfl) ?_
  refine Eq.trans (X_bipush f_2_57 kc_b_6) ?_
  refine Eq.trans (X_br f_2_59 rfl rfl) ?_
  exact mIte_eq (mX_mask rfl) (mX_mask rfl)
theorem b_2_62 {d : Nat} {a0 : Nat} {x1 : Int32} {w : MW} (h0 : mTg w a0 = 0) : mX (d + 1) 2 62 [.ref a0, .int x1] [] w = mThen (mK d 1 [.ref a0, .int x1] w) (fun v w9 => mX (d + 1) 2 67 [.ref a0, .int x1] (v.toList ++ []) w9) := by
  refine Eq.trans (X_st f_2_62 rfl rfl) ?_
  refine Eq.trans (X_st f_2_63 rfl rfl) ?_
  refine Eq.trans (X_call f_2_64 (by decide) rfl rfl rfl rfl rfl rfl (Nat.le_of_ble_eq_true rfl) (Nat.le_of_ble_eq_true rfl) (decide_eq_true h0) (Nat.le_of_ble_eq_true rfl)) ?_
  exact mThen_eq fun v w9 => mX_mask rfl
theorem b_2_67 {d : Nat} {a0 : Nat} {x1 : Int32} {b0 : Nat} {w : MW} (h0 : mTg w a0 = 0) (h1 : mR w a0 0 = some (gR w a0 0)) (h2 : mTg w b0 = 4) : mX (d + 1) 2 67 [.ref a0, .int x1] [.ref b0] w = mThen (mK d 53 [.ref b0, .ref (gR w a0 0), .int x1] w) (fun v w9 => mX (d + 1) 2 75 [.ref a0, .int x1] (v.toList ++ []) w9) := by
  refine Eq.trans (X_st f_2_67 rfl rfl) ?_
  refine Eq.trans (X_getR f_2_68 h0 rfl h1) ?_
  refine Eq.trans (X_st f_2_71 rfl rfl) ?_
  refine Eq.trans (X_call f_2_72 (by decide) rfl rfl rfl rfl rfl rfl (Nat.le_of_ble_eq_true rfl) (Nat.le_of_ble_eq_true rfl) (decide_eq_true h2) (Nat.le_of_ble_eq_true rfl)) ?_
  exact mThen_eq fun v w9 => mX_mask rfl
theorem b_2_75 {d : Nat} {a0 : Nat} {x1 : Int32} {w : MW} : mX d 2 75 [.ref a0, .int x1] [] w = mX d 2 56 [.ref a0, .int (x1 + (nI 1))] [] w := by
  refine Eq.trans (X_iinc f_2_75 kc_i_1 rfl rfl) ?_
  refine Eq.trans (X_st f_2_78 rfl rfl) ?_
  exact mX_mask rfl
theorem b_2_81 {d : Nat} {a0 : Nat} {w : MW} (h0 : mTg w a0 = 0) : mX (d + 1) 2 81 [.ref a0, mJ] [] w = mThen (mK d 6 [.ref a0] w) (fun v w9 => mX (d + 1) 2 86 [.ref a0, mJ] (v.toList ++ [.ref a0]) w9) := by
  refine Eq.trans (X_st f_2_81 rfl rfl) ?_
  refine Eq.trans (X_st f_2_82 rfl rfl) ?_
  refine Eq.trans (X_call f_2_83 (by decide) rfl rfl rfl rfl rfl rfl (Nat.le_of_ble_eq_true rfl) (Nat.le_of_ble_eq_true rfl) (decide_eq_true h0) (Nat.le_of_ble_eq_true rfl)) ?_
  exact mThen_eq fun v w9 => mX_mask rfl
theorem b_2_86 {d : Nat} {a0 : Nat} {y0 : Int32} {b1 : Nat} {w : MW} : mX d 2 86 [.ref a0, mJ] [.int y0, .ref b1] w = (if y0 < (nI 2) then mX d 2 101 [mJ, mJ] [.ref b1] w else mX d 2 90 [.ref a0, mJ] [.ref b1] w) := by
  refine Eq.trans (X_iconst f_2_86 kc_i_2) ?_
  refine Eq.trans (X_br f_2_87 rfl rfl) ?_
  exact mIte_eq (mX_mask rfl) (mX_mask rfl)
theorem b_2_90 {d : Nat} {a0 : Nat} {b0 : Nat} {w : MW} (h0 : mTg w a0 = 0) (h1 : mR w a0 0 = some (gR w a0 0)) (h2 : mTg w (gR w a0 0) = 8) : mX (d + 1) 2 90 [.ref a0, mJ] [.ref b0] w = mThen (mK d 85 [.ref (gR w a0 0), .int (nI 4)] w) (fun v w9 => mX (d + 1) 2 98 [.ref a0, mJ] (v.toList ++ [.ref b0]) w9) := by
  refine Eq.trans (X_st f_2_90 rfl rfl) ?_
  refine Eq.trans (X_getR f_2_91 h0 rfl h1) ?_
  refine Eq.trans (X_iconst f_2_94 kc_i_4) ?_
  refine Eq.trans (X_call f_2_95 (by decide) rfl rfl rfl rfl rfl rfl (Nat.le_of_ble_eq_true rfl) (Nat.le_of_ble_eq_true rfl) (decide_eq_true h2) (Nat.le_of_ble_eq_true rfl)) ?_
  exact mThen_eq fun v w9 => mX_mask rfl
theorem b_2_98 {d : Nat} {a0 : Nat} {y0 : Int32} {b1 : Nat} {w : MW} : mX d 2 98 [.ref a0, mJ] [.int y0, .ref b1] w = (if ¬ y0 = nI 0 then mX d 2 105 [.ref a0, mJ] [.ref b1] w else mX d 2 101 [mJ, mJ] [.ref b1] w) := by
  refine Eq.trans (X_br f_2_98 rfl rfl) ?_
  exact mIte_eq (mX_mask rfl) (mX_mask rfl)
theorem b_2_101 {d : Nat} {b0 : Nat} {w : MW} : mX d 2 101 [mJ, mJ] [.ref b0] w = mX d 2 110 [mJ, mJ] [.int (-1 : Int32), .ref b0] w := by
  refine Eq.trans (X_iconst f_2_101 kc_i_m1) ?_
  refine Eq.trans (X_st f_2_102 rfl rfl) ?_
  exact mX_mask rfl
theorem b_2_105 {d : Nat} {a0 : Nat} {b0 : Nat} {w : MW} (h0 : mTg w a0 = 0) : mX (d + 1) 2 105 [.ref a0, mJ] [.ref b0] w = mThen (mK d 7 [.ref a0, .int (nI 0)] w) (fun v w9 => mX (d + 1) 2 110 [mJ, mJ] (v.toList ++ [.ref b0]) w9) := by
  refine Eq.trans (X_st f_2_105 rfl rfl) ?_
  refine Eq.trans (X_iconst f_2_106 kc_i_0) ?_
  refine Eq.trans (X_call f_2_107 (by decide) rfl rfl rfl rfl rfl rfl (Nat.le_of_ble_eq_true rfl) (Nat.le_of_ble_eq_true rfl) (decide_eq_true h0) (Nat.le_of_ble_eq_true rfl)) ?_
  exact mThen_eq fun v w9 => mX_mask rfl
theorem b_2_110 {d : Nat} {y0 : Int32} {b1 : Nat} {w : MW} (h0 : mTg w b1 = 0) (h1 : mE ≤ b1) : mX d 2 110 [mJ, mJ] [.int y0, .ref b1] w = some (.inl none, wI w b1 11 y0) := by
  refine Eq.trans (X_putI f_2_110 h0 h1 rfl rfl) ?_
  exact X_ret f_2_113 rfl rfl
/-! BeeTurnpike$Bee copyFrom (LBeeTurnpike$Bee;)V -/
theorem f_3_0 : mFetch 3 0 = some (.aload_n 0, 1, []) := by decide +kernel
theorem f_3_1 : mFetch 3 1 = some (.aload_n 1, 1, []) := by decide +kernel
theorem f_3_2 : mFetch 3 2 = some (.getfield 47, 3, [0, 7, 0, 405]) := by decide +kernel
theorem f_3_5 : mFetch 3 5 = some (.putfield 47, 3, [0, 7, 0, 405]) := by decide +kernel
theorem f_3_8 : mFetch 3 8 = some (.aload_n 0, 1, []) := by decide +kernel
theorem f_3_9 : mFetch 3 9 = some (.aload_n 1, 1, []) := by decide +kernel
theorem f_3_10 : mFetch 3 10 = some (.getfield 50, 3, [0, 8, 0, 407]) := by decide +kernel
theorem f_3_13 : mFetch 3 13 = some (.putfield 50, 3, [0, 8, 0, 407]) := by decide +kernel
theorem f_3_16 : mFetch 3 16 = some (.aload_n 0, 1, []) := by decide +kernel
theorem f_3_17 : mFetch 3 17 = some (.aload_n 1, 1, []) := by decide +kernel
theorem f_3_18 : mFetch 3 18 = some (.getfield 53, 3, [0, 9, 0, 409]) := by decide +kernel
theorem f_3_21 : mFetch 3 21 = some (.putfield 53, 3, [0, 9, 0, 409]) := by decide +kernel
theorem f_3_24 : mFetch 3 24 = some (.aload_n 0, 1, []) := by decide +kernel
theorem f_3_25 : mFetch 3 25 = some (.aload_n 1, 1, []) := by decide +kernel
theorem f_3_26 : mFetch 3 26 = some (.getfield 56, 3, [0, 10, 0, 410]) := by decide +kernel
theorem f_3_29 : mFetch 3 29 = some (.putfield 56, 3, [0, 10, 0, 410]) := by decide +kernel
theorem f_3_32 : mFetch 3 32 = some (.aload_n 0, 1, []) := by decide +kernel
theorem f_3_33 : mFetch 3 33 = some (.aload_n 1, 1, []) := by decide +kernel
theorem f_3_34 : mFetch 3 34 = some (.getfield 39, 3, [0, 11, 0, 411]) := by decide +kernel
theorem f_3_37 : mFetch 3 37 = some (.putfield 39, 3, [0, 11, 0, 411]) := by decide +kernel
theorem f_3_40 : mFetch 3 40 = some (.aload_n 0, 1, []) := by decide +kernel
theorem f_3_41 : mFetch 3 41 = some (.aload_n 1, 1, []) := by decide +kernel
theorem f_3_42 : mFetch 3 42 = some (.getfield 59, 3, [0, 12, 0, 414]) := by decide +kernel
theorem f_3_45 : mFetch 3 45 = some (.putfield 59, 3, [0, 12, 0, 414]) := by decide +kernel
theorem f_3_48 : mFetch 3 48 = some (.aload_n 0, 1, []) := by decide +kernel
theorem f_3_49 : mFetch 3 49 = some (.aload_n 1, 1, []) := by decide +kernel
theorem f_3_50 : mFetch 3 50 = some (.getfield 62, 3, [0, 13, 0, 415]) := by decide +kernel
theorem f_3_53 : mFetch 3 53 = some (.putfield 62, 3, [0, 13, 0, 415]) := by decide +kernel
theorem f_3_56 : mFetch 3 56 = some (.aload_n 1, 1, []) := by decide +kernel
theorem f_3_57 : mFetch 3 57 = some (.getfield 29, 3, [0, 4, 0, 399]) := by decide +kernel
theorem f_3_60 : mFetch 3 60 = some (.aload_n 0, 1, []) := by decide +kernel
theorem f_3_61 : mFetch 3 61 = some (.getfield 29, 3, [0, 4, 0, 399]) := by decide +kernel
theorem f_3_64 : mFetch 3 64 = some (.invokestatic 93, 3, [125, 2, 1, 0, 12, 771]) := by decide +kernel
theorem f_3_67 : mFetch 3 67 = some (.aload_n 1, 1, []) := by decide +kernel
theorem f_3_68 : mFetch 3 68 = some (.getfield 33, 3, [0, 5, 0, 400]) := by decide +kernel
theorem f_3_71 : mFetch 3 71 = some (.aload_n 0, 1, []) := by decide +kernel
theorem f_3_72 : mFetch 3 72 = some (.getfield 33, 3, [0, 5, 0, 400]) := by decide +kernel
theorem f_3_75 : mFetch 3 75 = some (.invokestatic 93, 3, [125, 2, 1, 0, 12, 771]) := by decide +kernel
theorem f_3_78 : mFetch 3 78 = some (.aload_n 1, 1, []) := by decide +kernel
theorem f_3_79 : mFetch 3 79 = some (.getfield 36, 3, [0, 6, 0, 402]) := by decide +kernel
theorem f_3_82 : mFetch 3 82 = some (.aload_n 0, 1, []) := by decide +kernel
theorem f_3_83 : mFetch 3 83 = some (.getfield 36, 3, [0, 6, 0, 402]) := by decide +kernel
theorem f_3_86 : mFetch 3 86 = some (.invokestatic 93, 3, [125, 2, 1, 0, 12, 771]) := by decide +kernel
theorem f_3_89 : mFetch 3 89 = some (.iconst 0, 1, []) := by decide +kernel
theorem f_3_90 : mFetch 3 90 = some (.istore_n 2, 1, []) := by decide +kernel
theorem f_3_91 : mFetch 3 91 = some (.iload_n 2, 1, []) := by decide +kernel
theorem f_3_92 : mFetch 3 92 = some (.bipush 6, 2, []) := by decide +kernel
theorem f_3_94 : mFetch 3 94 = some (.if_icmp .ge 22, 3, [116]) := by decide +kernel
theorem f_3_97 : mFetch 3 97 = some (.aload_n 0, 1, []) := by decide +kernel
theorem f_3_98 : mFetch 3 98 = some (.iload_n 2, 1, []) := by decide +kernel
theorem f_3_99 : mFetch 3 99 = some (.invokevirtual 72, 3, [1, 2, 2, 0, 575, 576, 577]) := by decide +kernel
theorem f_3_102 : mFetch 3 102 = some (.aload_n 1, 1, []) := by decide +kernel
theorem f_3_103 : mFetch 3 103 = some (.iload_n 2, 1, []) := by decide +kernel
theorem f_3_104 : mFetch 3 104 = some (.invokevirtual 72, 3, [1, 2, 2, 0, 575, 576, 577]) := by decide +kernel
theorem f_3_107 : mFetch 3 107 = some (.invokevirtual 97, 3, [54, 2, 2, 4, 777, 778, 779]) := by decide +kernel
theorem f_3_110 : mFetch 3 110 = some (.iinc 2 1, 3, []) := by decide +kernel
theorem f_3_113 : mFetch 3 113 = some (.goto (-22), 3, [91]) := by decide +kernel
theorem f_3_116 : mFetch 3 116 = some (.return_, 1, []) := by decide +kernel
theorem b_3_0 {d : Nat} {a0 : Nat} {a1 : Nat} {w : MW} (h0 : mTg w a1 = 0) (h1 : mTg w a0 = 0) (h2 : mE ≤ a0) (h3 : mTg (wI w a0 7 (mI w a1 7)) a1 = 0) (h4 : mTg (wI w a0 7 (mI w a1 7)) a0 = 0) (h5 : mTg (wI (wI w a0 7 (mI w a1 7)) a0 8 (mI (wI w a0 7 (mI w a1 7)) a1 8)) a1 = 0) (h6 : mTg (wI (wI w a0 7 (mI w a1 7)) a0 8 (mI (wI w a0 7 (mI w a1 7)) a1 8)) a0 = 0) : mX d 3 0 [.ref a0, .ref a1, mJ] [] w = mX d 3 24 [.ref a0, .ref a1, mJ] [] (wI (wI (wI w a0 7 (mI w a1 7)) a0 8 (mI (wI w a0 7 (mI w a1 7)) a1 8)) a0 9 (mI (wI (wI w a0 7 (mI w a1 7)) a0 8 (mI (wI w a0 7 (mI w a1 7)) a1 8)) a1 9)) := by
  refine Eq.trans (X_st f_3_0 rfl rfl) ?_
  refine Eq.trans (X_st f_3_1 rfl rfl) ?_
  refine Eq.trans (X_getI f_3_2 h0 rfl) ?_
  refine Eq.trans (X_putI f_3_5 h1 h2 rfl rfl) ?_
  refine Eq.trans (X_st f_3_8 rfl rfl) ?_
  refine Eq.trans (X_st f_3_9 rfl rfl) ?_
  refine Eq.trans (X_getI f_3_10 h3 rfl) ?_
  refine Eq.trans (X_putI f_3_13 h4 h2 rfl rfl) ?_
  refine Eq.trans (X_st f_3_16 rfl rfl) ?_
  refine Eq.trans (X_st f_3_17 rfl rfl) ?_
  refine Eq.trans (X_getI f_3_18 h5 rfl) ?_
  refine Eq.trans (X_putI f_3_21 h6 h2 rfl rfl) ?_
  exact mX_mask rfl
theorem e_3 {d : Nat} {a0 : Nat} {a1 : Nat} {w : MW} : mK d 3 [.ref a0, .ref a1] w = mX d 3 0 [.ref a0, .ref a1, mJ] [] w := rfl
theorem b_3_24 {d : Nat} {a0 : Nat} {a1 : Nat} {w : MW} (h0 : mTg w a1 = 0) (h1 : mTg w a0 = 0) (h2 : mE ≤ a0) (h3 : mTg (wI w a0 10 (mI w a1 10)) a1 = 0) (h4 : mTg (wI w a0 10 (mI w a1 10)) a0 = 0) (h5 : mTg (wI (wI w a0 10 (mI w a1 10)) a0 11 (mI (wI w a0 10 (mI w a1 10)) a1 11)) a1 = 0) (h6 : mTg (wI (wI w a0 10 (mI w a1 10)) a0 11 (mI (wI w a0 10 (mI w a1 10)) a1 11)) a0 = 0) : mX d 3 24 [.ref a0, .ref a1, mJ] [] w = mX d 3 48 [.ref a0, .ref a1, mJ] [] (wI (wI (wI w a0 10 (mI w a1 10)) a0 11 (mI (wI w a0 10 (mI w a1 10)) a1 11)) a0 12 (mI (wI (wI w a0 10 (mI w a1 10)) a0 11 (mI (wI w a0 10 (mI w a1 10)) a1 11)) a1 12)) := by
  refine Eq.trans (X_st f_3_24 rfl rfl) ?_
  refine Eq.trans (X_st f_3_25 rfl rfl) ?_
  refine Eq.trans (X_getI f_3_26 h0 rfl) ?_
  refine Eq.trans (X_putI f_3_29 h1 h2 rfl rfl) ?_
  refine Eq.trans (X_st f_3_32 rfl rfl) ?_
  refine Eq.trans (X_st f_3_33 rfl rfl) ?_
  refine Eq.trans (X_getI f_3_34 h3 rfl) ?_
  refine Eq.trans (X_putI f_3_37 h4 h2 rfl rfl) ?_
  refine Eq.trans (X_st f_3_40 rfl rfl) ?_
  refine Eq.trans (X_st f_3_41 rfl rfl) ?_
  refine Eq.trans (X_getI f_3_42 h5 rfl) ?_
  refine Eq.trans (X_putI f_3_45 h6 h2 rfl rfl) ?_
  exact mX_mask rfl
theorem b_3_48 {d : Nat} {a0 : Nat} {a1 : Nat} {w : MW} (h0 : mTg w a1 = 0) (h1 : mTg w a0 = 0) (h2 : mE ≤ a0) (h3 : mNar (mTy 0 13) (mI w a1 13) = true) (h4 : mTg (wI w a0 13 (mI w a1 13)) a1 = 0) (h5 : mR (wI w a0 13 (mI w a1 13)) a1 4 = some (gR (wI w a0 13 (mI w a1 13)) a1 4)) (h6 : mTg (wI w a0 13 (mI w a1 13)) a0 = 0) (h7 : mR (wI w a0 13 (mI w a1 13)) a0 4 = some (gR (wI w a0 13 (mI w a1 13)) a0 4)) : mX (d + 1) 3 48 [.ref a0, .ref a1, mJ] [] w = mThen (mK d 125 [.ref (gR (wI w a0 13 (mI w a1 13)) a1 4), .ref (gR (wI w a0 13 (mI w a1 13)) a0 4)] (wI w a0 13 (mI w a1 13))) (fun v w9 => mX (d + 1) 3 67 [.ref a0, .ref a1, mJ] (v.toList ++ []) w9) := by
  refine Eq.trans (X_st f_3_48 rfl rfl) ?_
  refine Eq.trans (X_st f_3_49 rfl rfl) ?_
  refine Eq.trans (X_getI f_3_50 h0 rfl) ?_
  refine Eq.trans (X_putI f_3_53 h1 h2 rfl h3) ?_
  refine Eq.trans (X_st f_3_56 rfl rfl) ?_
  refine Eq.trans (X_getR f_3_57 h4 rfl h5) ?_
  refine Eq.trans (X_st f_3_60 rfl rfl) ?_
  refine Eq.trans (X_getR f_3_61 h6 rfl h7) ?_
  refine Eq.trans (X_call f_3_64 (by decide) rfl rfl rfl rfl rfl rfl (Nat.le_of_ble_eq_true rfl) (Nat.le_of_ble_eq_true rfl) rfl (Nat.le_of_ble_eq_true rfl)) ?_
  exact mThen_eq fun v w9 => mX_mask rfl
theorem b_3_67 {d : Nat} {a0 : Nat} {a1 : Nat} {w : MW} (h0 : mTg w a1 = 0) (h1 : mR w a1 5 = some (gR w a1 5)) (h2 : mTg w a0 = 0) (h3 : mR w a0 5 = some (gR w a0 5)) : mX (d + 1) 3 67 [.ref a0, .ref a1, mJ] [] w = mThen (mK d 125 [.ref (gR w a1 5), .ref (gR w a0 5)] w) (fun v w9 => mX (d + 1) 3 78 [.ref a0, .ref a1, mJ] (v.toList ++ []) w9) := by
  refine Eq.trans (X_st f_3_67 rfl rfl) ?_
  refine Eq.trans (X_getR f_3_68 h0 rfl h1) ?_
  refine Eq.trans (X_st f_3_71 rfl rfl) ?_
  refine Eq.trans (X_getR f_3_72 h2 rfl h3) ?_
  refine Eq.trans (X_call f_3_75 (by decide) rfl rfl rfl rfl rfl rfl (Nat.le_of_ble_eq_true rfl) (Nat.le_of_ble_eq_true rfl) rfl (Nat.le_of_ble_eq_true rfl)) ?_
  exact mThen_eq fun v w9 => mX_mask rfl
theorem b_3_78 {d : Nat} {a0 : Nat} {a1 : Nat} {w : MW} (h0 : mTg w a1 = 0) (h1 : mR w a1 6 = some (gR w a1 6)) (h2 : mTg w a0 = 0) (h3 : mR w a0 6 = some (gR w a0 6)) : mX (d + 1) 3 78 [.ref a0, .ref a1, mJ] [] w = mThen (mK d 125 [.ref (gR w a1 6), .ref (gR w a0 6)] w) (fun v w9 => mX (d + 1) 3 89 [.ref a0, .ref a1, mJ] (v.toList ++ []) w9) := by
  refine Eq.trans (X_st f_3_78 rfl rfl) ?_
  refine Eq.trans (X_getR f_3_79 h0 rfl h1) ?_
  refine Eq.trans (X_st f_3_82 rfl rfl) ?_
  refine Eq.trans (X_getR f_3_83 h2 rfl h3) ?_
  refine Eq.trans (X_call f_3_86 (by decide) rfl rfl rfl rfl rfl rfl (Nat.le_of_ble_eq_true rfl) (Nat.le_of_ble_eq_true rfl) rfl (Nat.le_of_ble_eq_true rfl)) ?_
  exact mThen_eq fun v w9 => mX_mask rfl
theorem b_3_89 {d : Nat} {a0 : Nat} {a1 : Nat} {w : MW} : mX d 3 89 [.ref a0, .ref a1, mJ] [] w = mX d 3 91 [.ref a0, .ref a1, .int (nI 0)] [] w := by
  refine Eq.trans (X_iconst f_3_89 kc_i_0) ?_
  refine Eq.trans (X_istore_n (L' := [.ref a0, .ref a1, .int (nI 0)]) f_3_90 (Nat.le_of_ble_eq_true rfl) rfl) ?_
  exact mX_mask rfl
theorem b_3_91 {d : Nat} {a0 : Nat} {a1 : Nat} {x2 : Int32} {w : MW} : mX d 3 91 [.ref a0, .ref a1, .int x2] [] w = (if (nI 6) ≤ x2 then mX d 3 116 [mJ, mJ, mJ] [] w else mX d 3 97 [.ref a0, .ref a1, .int x2] [] w) := by
  refine Eq.trans (X_st f_3_91 rfl rfl) ?_
  refine Eq.trans (X_bipush f_3_92 kc_b_6) ?_
  refine Eq.trans (X_br f_3_94 rfl rfl) ?_
  exact mIte_eq (mX_mask rfl) (mX_mask rfl)
theorem b_3_97 {d : Nat} {a0 : Nat} {a1 : Nat} {x2 : Int32} {w : MW} (h0 : mTg w a0 = 0) : mX (d + 1) 3 97 [.ref a0, .ref a1, .int x2] [] w = mThen (mK d 1 [.ref a0, .int x2] w) (fun v w9 => mX (d + 1) 3 102 [.ref a0, .ref a1, .int x2] (v.toList ++ []) w9) := by
  refine Eq.trans (X_st f_3_97 rfl rfl) ?_
  refine Eq.trans (X_st f_3_98 rfl rfl) ?_
  refine Eq.trans (X_call f_3_99 (by decide) rfl rfl rfl rfl rfl rfl (Nat.le_of_ble_eq_true rfl) (Nat.le_of_ble_eq_true rfl) (decide_eq_true h0) (Nat.le_of_ble_eq_true rfl)) ?_
  exact mThen_eq fun v w9 => mX_mask rfl
theorem b_3_102 {d : Nat} {a0 : Nat} {a1 : Nat} {x2 : Int32} {b0 : Nat} {w : MW} (h0 : mTg w a1 = 0) : mX (d + 1) 3 102 [.ref a0, .ref a1, .int x2] [.ref b0] w = mThen (mK d 1 [.ref a1, .int x2] w) (fun v w9 => mX (d + 1) 3 107 [.ref a0, .ref a1, .int x2] (v.toList ++ [.ref b0]) w9) := by
  refine Eq.trans (X_st f_3_102 rfl rfl) ?_
  refine Eq.trans (X_st f_3_103 rfl rfl) ?_
  refine Eq.trans (X_call f_3_104 (by decide) rfl rfl rfl rfl rfl rfl (Nat.le_of_ble_eq_true rfl) (Nat.le_of_ble_eq_true rfl) (decide_eq_true h0) (Nat.le_of_ble_eq_true rfl)) ?_
  exact mThen_eq fun v w9 => mX_mask rfl
theorem b_3_107 {d : Nat} {a0 : Nat} {a1 : Nat} {x2 : Int32} {b0 : Nat} {b1 : Nat} {w : MW} (h0 : mTg w b1 = 4) : mX (d + 1) 3 107 [.ref a0, .ref a1, .int x2] [.ref b0, .ref b1] w = mThen (mK d 54 [.ref b1, .ref b0] w) (fun v w9 => mX (d + 1) 3 110 [.ref a0, .ref a1, .int x2] (v.toList ++ []) w9) := by
  refine Eq.trans (X_call f_3_107 (by decide) rfl rfl rfl rfl rfl rfl (Nat.le_of_ble_eq_true rfl) (Nat.le_of_ble_eq_true rfl) (decide_eq_true h0) (Nat.le_of_ble_eq_true rfl)) ?_
  exact mThen_eq fun v w9 => mX_mask rfl
theorem b_3_110 {d : Nat} {a0 : Nat} {a1 : Nat} {x2 : Int32} {w : MW} : mX d 3 110 [.ref a0, .ref a1, .int x2] [] w = mX d 3 91 [.ref a0, .ref a1, .int (x2 + (nI 1))] [] w := by
  refine Eq.trans (X_iinc f_3_110 kc_i_1 rfl rfl) ?_
  refine Eq.trans (X_st f_3_113 rfl rfl) ?_
  exact mX_mask rfl
theorem b_3_116 {d : Nat} {w : MW} : mX d 3 116 [mJ, mJ, mJ] [] w = some (.inl none, w) := by
  exact X_ret f_3_116 rfl rfl
/-! BeeTurnpike$Bee isOver ()Z -/
theorem f_4_0 : mFetch 4 0 = some (.aload_n 0, 1, []) := by decide +kernel
theorem f_4_1 : mFetch 4 1 = some (.getfield 39, 3, [0, 11, 0, 411]) := by decide +kernel
theorem f_4_4 : mFetch 4 4 = some (.ifCond .ge 7, 3, [11]) := by decide +kernel
theorem f_4_7 : mFetch 4 7 = some (.iconst 1, 1, []) := by decide +kernel
theorem f_4_8 : mFetch 4 8 = some (.goto 4, 3, [12]) := by decide +kernel
theorem f_4_11 : mFetch 4 11 = some (.iconst 0, 1, []) := by decide +kernel
theorem f_4_12 : mFetch 4 12 = some (.ireturn, 1, [2]) := by decide +kernel
theorem b_4_0 {d : Nat} {a0 : Nat} {w : MW} (h0 : mTg w a0 = 0) : mX d 4 0 [.ref a0] [] w = (if nI 0 ≤ (mI w a0 11) then mX d 4 11 [mJ] [] w else mX d 4 7 [mJ] [] w) := by
  refine Eq.trans (X_st f_4_0 rfl rfl) ?_
  refine Eq.trans (X_getI f_4_1 h0 rfl) ?_
  refine Eq.trans (X_br f_4_4 rfl rfl) ?_
  exact mIte_eq (mX_mask rfl) (mX_mask rfl)
theorem e_4 {d : Nat} {a0 : Nat} {w : MW} : mK d 4 [.ref a0] w = mX d 4 0 [.ref a0] [] w := rfl
theorem b_4_7 {d : Nat} {w : MW} : mX d 4 7 [mJ] [] w = mX d 4 12 [mJ] [.int (nI 1)] w := by
  refine Eq.trans (X_iconst f_4_7 kc_i_1) ?_
  refine Eq.trans (X_st f_4_8 rfl rfl) ?_
  exact mX_mask rfl
theorem b_4_11 {d : Nat} {w : MW} : mX d 4 11 [mJ] [] w = mX d 4 12 [mJ] [.int (nI 0)] w := by
  refine Eq.trans (X_iconst f_4_11 kc_i_0) ?_
  exact mX_mask rfl
theorem b_4_12 {d : Nat} {y0 : Int32} {w : MW} (h0 : mRk 2 y0 = true) : mX d 4 12 [mJ] [.int y0] w = some (.inl (some (.int y0)), w) := by
  exact X_ireturn f_4_12 h0
/-! BeeTurnpike$Bee wordOnTurn ()I -/
theorem f_5_0 : mFetch 5 0 = some (.aload_n 0, 1, []) := by decide +kernel
theorem f_5_1 : mFetch 5 1 = some (.invokevirtual 101, 3, [4, 1, 2, 0, 557, 550, 551]) := by decide +kernel
theorem f_5_4 : mFetch 5 4 = some (.ifCond .eq 7, 3, [11]) := by decide +kernel
theorem f_5_7 : mFetch 5 7 = some (.iconst (-1), 1, []) := by decide +kernel
theorem f_5_8 : mFetch 5 8 = some (.goto 25, 3, [33]) := by decide +kernel
theorem f_5_11 : mFetch 5 11 = some (.aload_n 0, 1, []) := by decide +kernel
theorem f_5_12 : mFetch 5 12 = some (.getfield 43, 3, [0, 0, 0, 394]) := by decide +kernel
theorem f_5_15 : mFetch 5 15 = some (.getfield 105, 3, [8, 13, 1, 13]) := by decide +kernel
theorem f_5_18 : mFetch 5 18 = some (.aload_n 0, 1, []) := by decide +kernel
theorem f_5_19 : mFetch 5 19 = some (.getfield 50, 3, [0, 8, 0, 407]) := by decide +kernel
theorem f_5_22 : mFetch 5 22 = some (.bipush 8, 2, []) := by decide +kernel
theorem f_5_24 : mFetch 5 24 = some (.imul, 1, []) := by decide +kernel
theorem f_5_25 : mFetch 5 25 = some (.aload_n 0, 1, []) := by decide +kernel
theorem f_5_26 : mFetch 5 26 = some (.getfield 56, 3, [0, 10, 0, 410]) := by decide +kernel
theorem f_5_29 : mFetch 5 29 = some (.iadd, 1, []) := by decide +kernel
theorem f_5_30 : mFetch 5 30 = some (.invokestatic 108, 3, [123, 2, 1, 0, 14, 559]) := by decide +kernel
theorem f_5_33 : mFetch 5 33 = some (.ireturn, 1, [0]) := by decide +kernel
theorem b_5_0 {d : Nat} {a0 : Nat} {w : MW} (h0 : mTg w a0 = 0) : mX (d + 1) 5 0 [.ref a0] [] w = mThen (mK d 4 [.ref a0] w) (fun v w9 => mX (d + 1) 5 4 [.ref a0] (v.toList ++ []) w9) := by
  refine Eq.trans (X_st f_5_0 rfl rfl) ?_
  refine Eq.trans (X_call f_5_1 (by decide) rfl rfl rfl rfl rfl rfl (Nat.le_of_ble_eq_true rfl) (Nat.le_of_ble_eq_true rfl) (decide_eq_true h0) (Nat.le_of_ble_eq_true rfl)) ?_
  exact mThen_eq fun v w9 => mX_mask rfl
theorem e_5 {d : Nat} {a0 : Nat} {w : MW} : mK d 5 [.ref a0] w = mX d 5 0 [.ref a0] [] w := rfl
theorem b_5_4 {d : Nat} {a0 : Nat} {y0 : Int32} {w : MW} : mX d 5 4 [.ref a0] [.int y0] w = (if y0 = nI 0 then mX d 5 11 [.ref a0] [] w else mX d 5 7 [mJ] [] w) := by
  refine Eq.trans (X_br f_5_4 rfl rfl) ?_
  exact mIte_eq (mX_mask rfl) (mX_mask rfl)
theorem b_5_7 {d : Nat} {w : MW} : mX d 5 7 [mJ] [] w = mX d 5 33 [mJ] [.int (-1 : Int32)] w := by
  refine Eq.trans (X_iconst f_5_7 kc_i_m1) ?_
  refine Eq.trans (X_st f_5_8 rfl rfl) ?_
  exact mX_mask rfl
theorem b_5_11 {d : Nat} {a0 : Nat} {w : MW} (h0 : mTg w a0 = 0) (h1 : mR w a0 0 = some (gR w a0 0)) (h2 : mTg w (gR w a0 0) = 8) (h3 : mR w (gR w a0 0) 13 = some (gR w (gR w a0 0) 13)) : mX (d + 1) 5 11 [.ref a0] [] w = mThen (mK d 123 [.ref (gR w (gR w a0 0) 13), .int (((mI w a0 8) * (nI 8)) + (mI w a0 10))] w) (fun v w9 => mX (d + 1) 5 33 [mJ] (v.toList ++ []) w9) := by
  refine Eq.trans (X_st f_5_11 rfl rfl) ?_
  refine Eq.trans (X_getR f_5_12 h0 rfl h1) ?_
  refine Eq.trans (X_getR f_5_15 h2 rfl h3) ?_
  refine Eq.trans (X_st f_5_18 rfl rfl) ?_
  refine Eq.trans (X_getI f_5_19 h0 rfl) ?_
  refine Eq.trans (X_bipush f_5_22 kc_b_8) ?_
  refine Eq.trans (X_st f_5_24 rfl rfl) ?_
  refine Eq.trans (X_st f_5_25 rfl rfl) ?_
  refine Eq.trans (X_getI f_5_26 h0 rfl) ?_
  refine Eq.trans (X_st f_5_29 rfl rfl) ?_
  refine Eq.trans (X_call f_5_30 (by decide) rfl rfl rfl rfl rfl rfl (Nat.le_of_ble_eq_true rfl) (Nat.le_of_ble_eq_true rfl) rfl (Nat.le_of_ble_eq_true rfl)) ?_
  exact mThen_eq fun v w9 => mX_mask rfl
theorem b_5_33 {d : Nat} {y0 : Int32} {w : MW} : mX d 5 33 [mJ] [.int y0] w = some (.inl (some (.int y0)), w) := by
  exact X_ireturn f_5_33 rfl
/-! BeeTurnpike$Bee left ()I -/
theorem f_6_0 : mFetch 6 0 = some (.iconst 0, 1, []) := by decide +kernel
theorem f_6_1 : mFetch 6 1 = some (.istore_n 1, 1, []) := by decide +kernel
theorem f_6_2 : mFetch 6 2 = some (.iconst 0, 1, []) := by decide +kernel
theorem f_6_3 : mFetch 6 3 = some (.istore_n 2, 1, []) := by decide +kernel
theorem f_6_4 : mFetch 6 4 = some (.iload_n 2, 1, []) := by decide +kernel
theorem f_6_5 : mFetch 6 5 = some (.aload_n 0, 1, []) := by decide +kernel
theorem f_6_6 : mFetch 6 6 = some (.getfield 43, 3, [0, 0, 0, 394]) := by decide +kernel
theorem f_6_9 : mFetch 6 9 = some (.iconst 3, 1, []) := by decide +kernel
theorem f_6_10 : mFetch 6 10 = some (.invokevirtual 84, 3, [85, 2, 2, 8, 574, 562, 563]) := by decide +kernel
theorem f_6_13 : mFetch 6 13 = some (.if_icmp .ge 23, 3, [36]) := by decide +kernel
theorem f_6_16 : mFetch 6 16 = some (.aload_n 0, 1, []) := by decide +kernel
theorem f_6_17 : mFetch 6 17 = some (.iload_n 2, 1, []) := by decide +kernel
theorem f_6_18 : mFetch 6 18 = some (.invokevirtual 72, 3, [1, 2, 2, 0, 575, 576, 577]) := by decide +kernel
theorem f_6_21 : mFetch 6 21 = some (.getfield 112, 3, [4, 2, 1, 15]) := by decide +kernel
theorem f_6_24 : mFetch 6 24 = some (.ifCond .eq 6, 3, [30]) := by decide +kernel
theorem f_6_27 : mFetch 6 27 = some (.iinc 1 1, 3, []) := by decide +kernel
theorem f_6_30 : mFetch 6 30 = some (.iinc 2 1, 3, []) := by decide +kernel
theorem f_6_33 : mFetch 6 33 = some (.goto (-29), 3, [4]) := by decide +kernel
theorem f_6_36 : mFetch 6 36 = some (.iload_n 1, 1, []) := by decide +kernel
theorem f_6_37 : mFetch 6 37 = some (.ireturn, 1, [0]) := by decide +kernel
theorem b_6_0 {d : Nat} {a0 : Nat} {w : MW} : mX d 6 0 [.ref a0, mJ, mJ] [] w = mX d 6 4 [.ref a0, .int (nI 0), .int (nI 0)] [] w := by
  refine Eq.trans (X_iconst f_6_0 kc_i_0) ?_
  refine Eq.trans (X_istore_n (L' := [.ref a0, .int (nI 0), mJ]) f_6_1 (Nat.le_of_ble_eq_true rfl) rfl) ?_
  refine Eq.trans (X_iconst f_6_2 kc_i_0) ?_
  refine Eq.trans (X_istore_n (L' := [.ref a0, .int (nI 0), .int (nI 0)]) f_6_3 (Nat.le_of_ble_eq_true rfl) rfl) ?_
  exact mX_mask rfl
theorem e_6 {d : Nat} {a0 : Nat} {w : MW} : mK d 6 [.ref a0] w = mX d 6 0 [.ref a0, mJ, mJ] [] w := rfl
theorem b_6_4 {d : Nat} {a0 : Nat} {x1 : Int32} {x2 : Int32} {w : MW} (h0 : mTg w a0 = 0) (h1 : mR w a0 0 = some (gR w a0 0)) (h2 : mTg w (gR w a0 0) = 8) : mX (d + 1) 6 4 [.ref a0, .int x1, .int x2] [] w = mThen (mK d 85 [.ref (gR w a0 0), .int (nI 3)] w) (fun v w9 => mX (d + 1) 6 13 [.ref a0, .int x1, .int x2] (v.toList ++ [.int x2]) w9) := by
  refine Eq.trans (X_st f_6_4 rfl rfl) ?_
  refine Eq.trans (X_st f_6_5 rfl rfl) ?_
  refine Eq.trans (X_getR f_6_6 h0 rfl h1) ?_
  refine Eq.trans (X_iconst f_6_9 kc_i_3) ?_
  refine Eq.trans (X_call f_6_10 (by decide) rfl rfl rfl rfl rfl rfl (Nat.le_of_ble_eq_true rfl) (Nat.le_of_ble_eq_true rfl) (decide_eq_true h2) (Nat.le_of_ble_eq_true rfl)) ?_
  exact mThen_eq fun v w9 => mX_mask rfl
theorem b_6_13 {d : Nat} {a0 : Nat} {x1 : Int32} {x2 : Int32} {y0 : Int32} {y1 : Int32} {w : MW} : mX d 6 13 [.ref a0, .int x1, .int x2] [.int y0, .int y1] w = (if y0 ≤ y1 then mX d 6 36 [mJ, .int x1, mJ] [] w else mX d 6 16 [.ref a0, .int x1, .int x2] [] w) := by
  refine Eq.trans (X_br f_6_13 rfl rfl) ?_
  exact mIte_eq (mX_mask rfl) (mX_mask rfl)
theorem b_6_16 {d : Nat} {a0 : Nat} {x1 : Int32} {x2 : Int32} {w : MW} (h0 : mTg w a0 = 0) : mX (d + 1) 6 16 [.ref a0, .int x1, .int x2] [] w = mThen (mK d 1 [.ref a0, .int x2] w) (fun v w9 => mX (d + 1) 6 21 [.ref a0, .int x1, .int x2] (v.toList ++ []) w9) := by
  refine Eq.trans (X_st f_6_16 rfl rfl) ?_
  refine Eq.trans (X_st f_6_17 rfl rfl) ?_
  refine Eq.trans (X_call f_6_18 (by decide) rfl rfl rfl rfl rfl rfl (Nat.le_of_ble_eq_true rfl) (Nat.le_of_ble_eq_true rfl) (decide_eq_true h0) (Nat.le_of_ble_eq_true rfl)) ?_
  exact mThen_eq fun v w9 => mX_mask rfl
theorem b_6_21 {d : Nat} {a0 : Nat} {x1 : Int32} {x2 : Int32} {b0 : Nat} {w : MW} (h0 : mTg w b0 = 4) : mX d 6 21 [.ref a0, .int x1, .int x2] [.ref b0] w = (if (mI w b0 2) = nI 0 then mX d 6 30 [.ref a0, .int x1, .int x2] [] w else mX d 6 27 [.ref a0, .int x1, .int x2] [] w) := by
  refine Eq.trans (X_getI f_6_21 h0 rfl) ?_
  refine Eq.trans (X_br f_6_24 rfl rfl) ?_
  exact mIte_eq (mX_mask rfl) (mX_mask rfl)
theorem b_6_27 {d : Nat} {a0 : Nat} {x1 : Int32} {x2 : Int32} {w : MW} : mX d 6 27 [.ref a0, .int x1, .int x2] [] w = mX d 6 30 [.ref a0, .int (x1 + (nI 1)), .int x2] [] w := by
  refine Eq.trans (X_iinc f_6_27 kc_i_1 rfl rfl) ?_
  exact mX_mask rfl
theorem b_6_30 {d : Nat} {a0 : Nat} {x1 : Int32} {x2 : Int32} {w : MW} : mX d 6 30 [.ref a0, .int x1, .int x2] [] w = mX d 6 4 [.ref a0, .int x1, .int (x2 + (nI 1))] [] w := by
  refine Eq.trans (X_iinc f_6_30 kc_i_1 rfl rfl) ?_
  refine Eq.trans (X_st f_6_33 rfl rfl) ?_
  exact mX_mask rfl
theorem b_6_36 {d : Nat} {x1 : Int32} {w : MW} : mX d 6 36 [mJ, .int x1, mJ] [] w = some (.inl (some (.int x1)), w) := by
  refine Eq.trans (X_st f_6_36 rfl rfl) ?_
  exact X_ireturn f_6_37 rfl
/-! BeeTurnpike$Bee nextIn (I)I -/
theorem f_7_0 : mFetch 7 0 = some (.iload_n 1, 1, []) := by decide +kernel
theorem f_7_1 : mFetch 7 1 = some (.istore_n 2, 1, []) := by decide +kernel
theorem f_7_2 : mFetch 7 2 = some (.iload_n 2, 1, []) := by decide +kernel
theorem f_7_3 : mFetch 7 3 = some (.aload_n 0, 1, []) := by decide +kernel
theorem f_7_4 : mFetch 7 4 = some (.getfield 43, 3, [0, 0, 0, 394]) := by decide +kernel
theorem f_7_7 : mFetch 7 7 = some (.iconst 3, 1, []) := by decide +kernel
theorem f_7_8 : mFetch 7 8 = some (.invokevirtual 84, 3, [85, 2, 2, 8, 574, 562, 563]) := by decide +kernel
theorem f_7_11 : mFetch 7 11 = some (.if_icmp .ge 22, 3, [33]) := by decide +kernel
theorem f_7_14 : mFetch 7 14 = some (.aload_n 0, 1, []) := by decide +kernel
theorem f_7_15 : mFetch 7 15 = some (.iload_n 2, 1, []) := by decide +kernel
theorem f_7_16 : mFetch 7 16 = some (.invokevirtual 72, 3, [1, 2, 2, 0, 575, 576, 577]) := by decide +kernel
theorem f_7_19 : mFetch 7 19 = some (.getfield 112, 3, [4, 2, 1, 15]) := by decide +kernel
theorem f_7_22 : mFetch 7 22 = some (.ifCond .eq 5, 3, [27]) := by decide +kernel
theorem f_7_25 : mFetch 7 25 = some (.iload_n 2, 1, []) := by decide +kernel
theorem f_7_26 : mFetch 7 26 = some (.ireturn, 1, [0]) := by decide +kernel
theorem f_7_27 : mFetch 7 27 = some (.iinc 2 1, 3, []) := by decide +kernel
theorem f_7_30 : mFetch 7 30 = some (.goto (-28), 3, [2]) := by decide +kernel
theorem f_7_33 : mFetch 7 33 = some (.iconst (-1), 1, []) := by decide +kernel
theorem f_7_34 : mFetch 7 34 = some (.ireturn, 1, [0]) := by decide +kernel
theorem b_7_0 {d : Nat} {a0 : Nat} {x1 : Int32} {w : MW} : mX d 7 0 [.ref a0, .int x1, mJ] [] w = mX d 7 2 [.ref a0, mJ, .int x1] [] w := by
  refine Eq.trans (X_st f_7_0 rfl rfl) ?_
  refine Eq.trans (X_istore_n (L' := [.ref a0, .int x1, .int x1]) f_7_1 (Nat.le_of_ble_eq_true rfl) rfl) ?_
  exact mX_mask rfl
theorem e_7 {d : Nat} {a0 : Nat} {x1 : Int32} {w : MW} : mK d 7 [.ref a0, .int x1] w = mX d 7 0 [.ref a0, .int x1, mJ] [] w := rfl
theorem b_7_2 {d : Nat} {a0 : Nat} {x2 : Int32} {w : MW} (h0 : mTg w a0 = 0) (h1 : mR w a0 0 = some (gR w a0 0)) (h2 : mTg w (gR w a0 0) = 8) : mX (d + 1) 7 2 [.ref a0, mJ, .int x2] [] w = mThen (mK d 85 [.ref (gR w a0 0), .int (nI 3)] w) (fun v w9 => mX (d + 1) 7 11 [.ref a0, mJ, .int x2] (v.toList ++ [.int x2]) w9) := by
  refine Eq.trans (X_st f_7_2 rfl rfl) ?_
  refine Eq.trans (X_st f_7_3 rfl rfl) ?_
  refine Eq.trans (X_getR f_7_4 h0 rfl h1) ?_
  refine Eq.trans (X_iconst f_7_7 kc_i_3) ?_
  refine Eq.trans (X_call f_7_8 (by decide) rfl rfl rfl rfl rfl rfl (Nat.le_of_ble_eq_true rfl) (Nat.le_of_ble_eq_true rfl) (decide_eq_true h2) (Nat.le_of_ble_eq_true rfl)) ?_
  exact mThen_eq fun v w9 => mX_mask rfl
theorem b_7_11 {d : Nat} {a0 : Nat} {x2 : Int32} {y0 : Int32} {y1 : Int32} {w : MW} : mX d 7 11 [.ref a0, mJ, .int x2] [.int y0, .int y1] w = (if y0 ≤ y1 then mX d 7 33 [mJ, mJ, mJ] [] w else mX d 7 14 [.ref a0, mJ, .int x2] [] w) := by
  refine Eq.trans (X_br f_7_11 rfl rfl) ?_
  exact mIte_eq (mX_mask rfl) (mX_mask rfl)
theorem b_7_14 {d : Nat} {a0 : Nat} {x2 : Int32} {w : MW} (h0 : mTg w a0 = 0) : mX (d + 1) 7 14 [.ref a0, mJ, .int x2] [] w = mThen (mK d 1 [.ref a0, .int x2] w) (fun v w9 => mX (d + 1) 7 19 [.ref a0, mJ, .int x2] (v.toList ++ []) w9) := by
  refine Eq.trans (X_st f_7_14 rfl rfl) ?_
  refine Eq.trans (X_st f_7_15 rfl rfl) ?_
  refine Eq.trans (X_call f_7_16 (by decide) rfl rfl rfl rfl rfl rfl (Nat.le_of_ble_eq_true rfl) (Nat.le_of_ble_eq_true rfl) (decide_eq_true h0) (Nat.le_of_ble_eq_true rfl)) ?_
  exact mThen_eq fun v w9 => mX_mask rfl
theorem b_7_19 {d : Nat} {a0 : Nat} {x2 : Int32} {b0 : Nat} {w : MW} (h0 : mTg w b0 = 4) : mX d 7 19 [.ref a0, mJ, .int x2] [.ref b0] w = (if (mI w b0 2) = nI 0 then mX d 7 27 [.ref a0, mJ, .int x2] [] w else mX d 7 25 [mJ, mJ, .int x2] [] w) := by
  refine Eq.trans (X_getI f_7_19 h0 rfl) ?_
  refine Eq.trans (X_br f_7_22 rfl rfl) ?_
  exact mIte_eq (mX_mask rfl) (mX_mask rfl)
theorem b_7_25 {d : Nat} {x2 : Int32} {w : MW} : mX d 7 25 [mJ, mJ, .int x2] [] w = some (.inl (some (.int x2)), w) := by
  refine Eq.trans (X_st f_7_25 rfl rfl) ?_
  exact X_ireturn f_7_26 rfl
theorem b_7_27 {d : Nat} {a0 : Nat} {x2 : Int32} {w : MW} : mX d 7 27 [.ref a0, mJ, .int x2] [] w = mX d 7 2 [.ref a0, mJ, .int (x2 + (nI 1))] [] w := by
  refine Eq.trans (X_iinc f_7_27 kc_i_1 rfl rfl) ?_
  refine Eq.trans (X_st f_7_30 rfl rfl) ?_
  exact mX_mask rfl
theorem b_7_33 {d : Nat} {w : MW} : mX d 7 33 [mJ, mJ, mJ] [] w = some (.inl (some (.int (-1 : Int32))), w) := by
  refine Eq.trans (X_iconst f_7_33 kc_i_m1) ?_
  exact X_ireturn f_7_34 rfl
/-! BeeTurnpike$Bee tally (I)I -/
theorem f_8_0 : mFetch 8 0 = some (.iload_n 1, 1, []) := by decide +kernel
theorem f_8_1 : mFetch 8 1 = some (.bipush 11, 2, []) := by decide +kernel
theorem f_8_3 : mFetch 8 3 = some (.if_icmp .ge 10, 3, [13]) := by decide +kernel
theorem f_8_6 : mFetch 8 6 = some (.aload_n 0, 1, []) := by decide +kernel
theorem f_8_7 : mFetch 8 7 = some (.invokevirtual 80, 3, [6, 1, 2, 0, 570, 571, 572]) := by decide +kernel
theorem f_8_10 : mFetch 8 10 = some (.goto 14, 3, [24]) := by decide +kernel
theorem f_8_13 : mFetch 8 13 = some (.aload_n 0, 1, []) := by decide +kernel
theorem f_8_14 : mFetch 8 14 = some (.getfield 29, 3, [0, 4, 0, 399]) := by decide +kernel
theorem f_8_17 : mFetch 8 17 = some (.iload_n 1, 1, []) := by decide +kernel
theorem f_8_18 : mFetch 8 18 = some (.bipush 11, 2, []) := by decide +kernel
theorem f_8_20 : mFetch 8 20 = some (.isub, 1, []) := by decide +kernel
theorem f_8_21 : mFetch 8 21 = some (.invokestatic 108, 3, [123, 2, 1, 0, 14, 559]) := by decide +kernel
theorem f_8_24 : mFetch 8 24 = some (.ireturn, 1, [0]) := by decide +kernel
theorem b_8_0 {d : Nat} {a0 : Nat} {x1 : Int32} {w : MW} : mX d 8 0 [.ref a0, .int x1] [] w = (if (nI 11) ≤ x1 then mX d 8 13 [.ref a0, .int x1] [] w else mX d 8 6 [.ref a0, mJ] [] w) := by
  refine Eq.trans (X_st f_8_0 rfl rfl) ?_
  refine Eq.trans (X_bipush f_8_1 kc_b_11) ?_
  refine Eq.trans (X_br f_8_3 rfl rfl) ?_
  exact mIte_eq (mX_mask rfl) (mX_mask rfl)
theorem e_8 {d : Nat} {a0 : Nat} {x1 : Int32} {w : MW} : mK d 8 [.ref a0, .int x1] w = mX d 8 0 [.ref a0, .int x1] [] w := rfl
theorem b_8_6 {d : Nat} {a0 : Nat} {w : MW} (h0 : mTg w a0 = 0) : mX (d + 1) 8 6 [.ref a0, mJ] [] w = mThen (mK d 6 [.ref a0] w) (fun v w9 => mX (d + 1) 8 10 [mJ, mJ] (v.toList ++ []) w9) := by
  refine Eq.trans (X_st f_8_6 rfl rfl) ?_
  refine Eq.trans (X_call f_8_7 (by decide) rfl rfl rfl rfl rfl rfl (Nat.le_of_ble_eq_true rfl) (Nat.le_of_ble_eq_true rfl) (decide_eq_true h0) (Nat.le_of_ble_eq_true rfl)) ?_
  exact mThen_eq fun v w9 => mX_mask rfl
theorem b_8_10 {d : Nat} {y0 : Int32} {w : MW} : mX d 8 10 [mJ, mJ] [.int y0] w = mX d 8 24 [mJ, mJ] [.int y0] w := by
  refine Eq.trans (X_st f_8_10 rfl rfl) ?_
  exact mX_mask rfl
theorem b_8_13 {d : Nat} {a0 : Nat} {x1 : Int32} {w : MW} (h0 : mTg w a0 = 0) (h1 : mR w a0 4 = some (gR w a0 4)) : mX (d + 1) 8 13 [.ref a0, .int x1] [] w = mThen (mK d 123 [.ref (gR w a0 4), .int (x1 - (nI 11))] w) (fun v w9 => mX (d + 1) 8 24 [mJ, mJ] (v.toList ++ []) w9) := by
  refine Eq.trans (X_st f_8_13 rfl rfl) ?_
  refine Eq.trans (X_getR f_8_14 h0 rfl h1) ?_
  refine Eq.trans (X_st f_8_17 rfl rfl) ?_
  refine Eq.trans (X_bipush f_8_18 kc_b_11) ?_
  refine Eq.trans (X_st f_8_20 rfl rfl) ?_
  refine Eq.trans (X_call f_8_21 (by decide) rfl rfl rfl rfl rfl rfl (Nat.le_of_ble_eq_true rfl) (Nat.le_of_ble_eq_true rfl) rfl (Nat.le_of_ble_eq_true rfl)) ?_
  exact mThen_eq fun v w9 => mX_mask rfl
theorem b_8_24 {d : Nat} {y0 : Int32} {w : MW} : mX d 8 24 [mJ, mJ] [.int y0] w = some (.inl (some (.int y0)), w) := by
  exact X_ireturn f_8_24 rfl
/-! BeeTurnpike$Bee rank (I)I -/
theorem f_9_0 : mFetch 9 0 = some (.iconst 0, 1, []) := by decide +kernel
theorem f_9_1 : mFetch 9 1 = some (.istore_n 2, 1, []) := by decide +kernel
theorem f_9_2 : mFetch 9 2 = some (.iconst 0, 1, []) := by decide +kernel
theorem f_9_3 : mFetch 9 3 = some (.istore_n 3, 1, []) := by decide +kernel
theorem f_9_4 : mFetch 9 4 = some (.iload_n 3, 1, []) := by decide +kernel
theorem f_9_5 : mFetch 9 5 = some (.aload_n 0, 1, []) := by decide +kernel
theorem f_9_6 : mFetch 9 6 = some (.getfield 43, 3, [0, 0, 0, 394]) := by decide +kernel
theorem f_9_9 : mFetch 9 9 = some (.iconst 3, 1, []) := by decide +kernel
theorem f_9_10 : mFetch 9 10 = some (.invokevirtual 84, 3, [85, 2, 2, 8, 574, 562, 563]) := by decide +kernel
theorem f_9_13 : mFetch 9 13 = some (.if_icmp .ge 21, 3, [34]) := by decide +kernel
theorem f_9_16 : mFetch 9 16 = some (.aload_n 0, 1, []) := by decide +kernel
theorem f_9_17 : mFetch 9 17 = some (.iload_n 3, 1, []) := by decide +kernel
theorem f_9_18 : mFetch 9 18 = some (.iload_n 1, 1, []) := by decide +kernel
theorem f_9_19 : mFetch 9 19 = some (.invokevirtual 115, 3, [10, 3, 2, 0, 619, 621, 8]) := by decide +kernel
theorem f_9_22 : mFetch 9 22 = some (.ifCond .eq 6, 3, [28]) := by decide +kernel
theorem f_9_25 : mFetch 9 25 = some (.iinc 2 1, 3, []) := by decide +kernel
theorem f_9_28 : mFetch 9 28 = some (.iinc 3 1, 3, []) := by decide +kernel
theorem f_9_31 : mFetch 9 31 = some (.goto (-27), 3, [4]) := by decide +kernel
theorem f_9_34 : mFetch 9 34 = some (.iload_n 2, 1, []) := by decide +kernel
theorem f_9_35 : mFetch 9 35 = some (.ireturn, 1, [0]) := by decide +kernel
theorem b_9_0 {d : Nat} {a0 : Nat} {x1 : Int32} {w : MW} : mX d 9 0 [.ref a0, .int x1, mJ, mJ] [] w = mX d 9 4 [.ref a0, .int x1, .int (nI 0), .int (nI 0)] [] w := by
  refine Eq.trans (X_iconst f_9_0 kc_i_0) ?_
  refine Eq.trans (X_istore_n (L' := [.ref a0, .int x1, .int (nI 0), mJ]) f_9_1 (Nat.le_of_ble_eq_true rfl) rfl) ?_
  refine Eq.trans (X_iconst f_9_2 kc_i_0) ?_
  refine Eq.trans (X_istore_n (L' := [.ref a0, .int x1, .int (nI 0), .int (nI 0)]) f_9_3 (Nat.le_of_ble_eq_true rfl) rfl) ?_
  exact mX_mask rfl
theorem e_9 {d : Nat} {a0 : Nat} {x1 : Int32} {w : MW} : mK d 9 [.ref a0, .int x1] w = mX d 9 0 [.ref a0, .int x1, mJ, mJ] [] w := rfl
theorem b_9_4 {d : Nat} {a0 : Nat} {x1 : Int32} {x2 : Int32} {x3 : Int32} {w : MW} (h0 : mTg w a0 = 0) (h1 : mR w a0 0 = some (gR w a0 0)) (h2 : mTg w (gR w a0 0) = 8) : mX (d + 1) 9 4 [.ref a0, .int x1, .int x2, .int x3] [] w = mThen (mK d 85 [.ref (gR w a0 0), .int (nI 3)] w) (fun v w9 => mX (d + 1) 9 13 [.ref a0, .int x1, .int x2, .int x3] (v.toList ++ [.int x3]) w9) := by
  refine Eq.trans (X_st f_9_4 rfl rfl) ?_
  refine Eq.trans (X_st f_9_5 rfl rfl) ?_
  refine Eq.trans (X_getR f_9_6 h0 rfl h1) ?_
  refine Eq.trans (X_iconst f_9_9 kc_i_3) ?_
  refine Eq.trans (X_call f_9_10 (by decide) rfl rfl rfl rfl rfl rfl (Nat.le_of_ble_eq_true rfl) (Nat.le_of_ble_eq_true rfl) (decide_eq_true h2) (Nat.le_of_ble_eq_true rfl)) ?_
  exact mThen_eq fun v w9 => mX_mask rfl
theorem b_9_13 {d : Nat} {a0 : Nat} {x1 : Int32} {x2 : Int32} {x3 : Int32} {y0 : Int32} {y1 : Int32} {w : MW} : mX d 9 13 [.ref a0, .int x1, .int x2, .int x3] [.int y0, .int y1] w = (if y0 ≤ y1 then mX d 9 34 [mJ, mJ, .int x2, mJ] [] w else mX d 9 16 [.ref a0, .int x1, .int x2, .int x3] [] w) := by
  refine Eq.trans (X_br f_9_13 rfl rfl) ?_
  exact mIte_eq (mX_mask rfl) (mX_mask rfl)
theorem b_9_16 {d : Nat} {a0 : Nat} {x1 : Int32} {x2 : Int32} {x3 : Int32} {w : MW} (h0 : mTg w a0 = 0) : mX (d + 1) 9 16 [.ref a0, .int x1, .int x2, .int x3] [] w = mThen (mK d 10 [.ref a0, .int x3, .int x1] w) (fun v w9 => mX (d + 1) 9 22 [.ref a0, .int x1, .int x2, .int x3] (v.toList ++ []) w9) := by
  refine Eq.trans (X_st f_9_16 rfl rfl) ?_
  refine Eq.trans (X_st f_9_17 rfl rfl) ?_
  refine Eq.trans (X_st f_9_18 rfl rfl) ?_
  refine Eq.trans (X_call f_9_19 (by decide) rfl rfl rfl rfl rfl rfl (Nat.le_of_ble_eq_true rfl) (Nat.le_of_ble_eq_true rfl) (decide_eq_true h0) (Nat.le_of_ble_eq_true rfl)) ?_
  exact mThen_eq fun v w9 => mX_mask rfl
theorem b_9_22 {d : Nat} {a0 : Nat} {x1 : Int32} {x2 : Int32} {x3 : Int32} {y0 : Int32} {w : MW} : mX d 9 22 [.ref a0, .int x1, .int x2, .int x3] [.int y0] w = (if y0 = nI 0 then mX d 9 28 [.ref a0, .int x1, .int x2, .int x3] [] w else mX d 9 25 [.ref a0, .int x1, .int x2, .int x3] [] w) := by
  refine Eq.trans (X_br f_9_22 rfl rfl) ?_
  exact mIte_eq (mX_mask rfl) (mX_mask rfl)
theorem b_9_25 {d : Nat} {a0 : Nat} {x1 : Int32} {x2 : Int32} {x3 : Int32} {w : MW} : mX d 9 25 [.ref a0, .int x1, .int x2, .int x3] [] w = mX d 9 28 [.ref a0, .int x1, .int (x2 + (nI 1)), .int x3] [] w := by
  refine Eq.trans (X_iinc f_9_25 kc_i_1 rfl rfl) ?_
  exact mX_mask rfl
theorem b_9_28 {d : Nat} {a0 : Nat} {x1 : Int32} {x2 : Int32} {x3 : Int32} {w : MW} : mX d 9 28 [.ref a0, .int x1, .int x2, .int x3] [] w = mX d 9 4 [.ref a0, .int x1, .int x2, .int (x3 + (nI 1))] [] w := by
  refine Eq.trans (X_iinc f_9_28 kc_i_1 rfl rfl) ?_
  refine Eq.trans (X_st f_9_31 rfl rfl) ?_
  exact mX_mask rfl
theorem b_9_34 {d : Nat} {x2 : Int32} {w : MW} : mX d 9 34 [mJ, mJ, .int x2, mJ] [] w = some (.inl (some (.int x2)), w) := by
  refine Eq.trans (X_st f_9_34 rfl rfl) ?_
  exact X_ireturn f_9_35 rfl
/-! BeeTurnpike$Bee isAhead (II)Z -/
theorem f_10_0 : mFetch 10 0 = some (.aload_n 0, 1, []) := by decide +kernel
theorem f_10_1 : mFetch 10 1 = some (.iload_n 1, 1, []) := by decide +kernel
theorem f_10_2 : mFetch 10 2 = some (.invokevirtual 72, 3, [1, 2, 2, 0, 575, 576, 577]) := by decide +kernel
theorem f_10_5 : mFetch 10 5 = some (.astore_n 3, 1, []) := by decide +kernel
theorem f_10_6 : mFetch 10 6 = some (.aload_n 0, 1, []) := by decide +kernel
theorem f_10_7 : mFetch 10 7 = some (.iload_n 2, 1, []) := by decide +kernel
theorem f_10_8 : mFetch 10 8 = some (.invokevirtual 72, 3, [1, 2, 2, 0, 575, 576, 577]) := by decide +kernel
theorem f_10_11 : mFetch 10 11 = some (.astore 4, 2, []) := by decide +kernel
theorem f_10_13 : mFetch 10 13 = some (.aload_n 3, 1, []) := by decide +kernel
theorem f_10_14 : mFetch 10 14 = some (.getfield 112, 3, [4, 2, 1, 15]) := by decide +kernel
theorem f_10_17 : mFetch 10 17 = some (.aload 4, 2, []) := by decide +kernel
theorem f_10_19 : mFetch 10 19 = some (.getfield 112, 3, [4, 2, 1, 15]) := by decide +kernel
theorem f_10_22 : mFetch 10 22 = some (.if_icmp .eq 8, 3, [30]) := by decide +kernel
theorem f_10_25 : mFetch 10 25 = some (.aload_n 3, 1, []) := by decide +kernel
theorem f_10_26 : mFetch 10 26 = some (.getfield 112, 3, [4, 2, 1, 15]) := by decide +kernel
theorem f_10_29 : mFetch 10 29 = some (.ireturn, 1, [2]) := by decide +kernel
theorem f_10_30 : mFetch 10 30 = some (.aload_n 3, 1, []) := by decide +kernel
theorem f_10_31 : mFetch 10 31 = some (.getfield 119, 3, [4, 5, 1, 16]) := by decide +kernel
theorem f_10_34 : mFetch 10 34 = some (.aload 4, 2, []) := by decide +kernel
theorem f_10_36 : mFetch 10 36 = some (.getfield 119, 3, [4, 5, 1, 16]) := by decide +kernel
theorem f_10_39 : mFetch 10 39 = some (.if_icmp .eq 23, 3, [62]) := by decide +kernel
theorem f_10_42 : mFetch 10 42 = some (.aload_n 3, 1, []) := by decide +kernel
theorem f_10_43 : mFetch 10 43 = some (.getfield 119, 3, [4, 5, 1, 16]) := by decide +kernel
theorem f_10_46 : mFetch 10 46 = some (.aload 4, 2, []) := by decide +kernel
theorem f_10_48 : mFetch 10 48 = some (.getfield 119, 3, [4, 5, 1, 16]) := by decide +kernel
theorem f_10_51 : mFetch 10 51 = some (.if_icmp .le 7, 3, [58]) := by decide +kernel
theorem f_10_54 : mFetch 10 54 = some (.iconst 1, 1, []) := by decide +kernel
theorem f_10_55 : mFetch 10 55 = some (.goto 17, 3, [72]) := by decide +kernel
theorem f_10_58 : mFetch 10 58 = some (.iconst 0, 1, []) := by decide +kernel
theorem f_10_59 : mFetch 10 59 = some (.goto 13, 3, [72]) := by decide +kernel
theorem f_10_62 : mFetch 10 62 = some (.iload_n 1, 1, []) := by decide +kernel
theorem f_10_63 : mFetch 10 63 = some (.iload_n 2, 1, []) := by decide +kernel
theorem f_10_64 : mFetch 10 64 = some (.if_icmp .ge 7, 3, [71]) := by decide +kernel
theorem f_10_67 : mFetch 10 67 = some (.iconst 1, 1, []) := by decide +kernel
theorem f_10_68 : mFetch 10 68 = some (.goto 4, 3, [72]) := by decide +kernel
theorem f_10_71 : mFetch 10 71 = some (.iconst 0, 1, []) := by decide +kernel
theorem f_10_72 : mFetch 10 72 = some (.ireturn, 1, [2]) := by decide +kernel
theorem b_10_0 {d : Nat} {a0 : Nat} {x1 : Int32} {x2 : Int32} {w : MW} (h0 : mTg w a0 = 0) : mX (d + 1) 10 0 [.ref a0, .int x1, .int x2, mJ, mJ] [] w = mThen (mK d 1 [.ref a0, .int x1] w) (fun v w9 => mX (d + 1) 10 5 [.ref a0, .int x1, .int x2, mJ, mJ] (v.toList ++ []) w9) := by
  refine Eq.trans (X_st f_10_0 rfl rfl) ?_
  refine Eq.trans (X_st f_10_1 rfl rfl) ?_
  refine Eq.trans (X_call f_10_2 (by decide) rfl rfl rfl rfl rfl rfl (Nat.le_of_ble_eq_true rfl) (Nat.le_of_ble_eq_true rfl) (decide_eq_true h0) (Nat.le_of_ble_eq_true rfl)) ?_
  exact mThen_eq fun v w9 => mX_mask rfl
theorem e_10 {d : Nat} {a0 : Nat} {x1 : Int32} {x2 : Int32} {w : MW} : mK d 10 [.ref a0, .int x1, .int x2] w = mX d 10 0 [.ref a0, .int x1, .int x2, mJ, mJ] [] w := rfl
theorem b_10_5 {d : Nat} {a0 : Nat} {x1 : Int32} {x2 : Int32} {b0 : Nat} {w : MW} (h0 : mTg w a0 = 0) : mX (d + 1) 10 5 [.ref a0, .int x1, .int x2, mJ, mJ] [.ref b0] w = mThen (mK d 1 [.ref a0, .int x2] w) (fun v w9 => mX (d + 1) 10 11 [mJ, .int x1, .int x2, .ref b0, mJ] (v.toList ++ []) w9) := by
  refine Eq.trans (X_astore_n (L' := [.ref a0, .int x1, .int x2, .ref b0, mJ]) f_10_5 (Nat.le_of_ble_eq_true rfl) rfl) ?_
  refine Eq.trans (X_st f_10_6 rfl rfl) ?_
  refine Eq.trans (X_st f_10_7 rfl rfl) ?_
  refine Eq.trans (X_call f_10_8 (by decide) rfl rfl rfl rfl rfl rfl (Nat.le_of_ble_eq_true rfl) (Nat.le_of_ble_eq_true rfl) (decide_eq_true h0) (Nat.le_of_ble_eq_true rfl)) ?_
  exact mThen_eq fun v w9 => mX_mask rfl
theorem b_10_11 {d : Nat} {x1 : Int32} {x2 : Int32} {a3 : Nat} {b0 : Nat} {w : MW} (h0 : mTg w a3 = 4) (h1 : mTg w b0 = 4) : mX d 10 11 [mJ, .int x1, .int x2, .ref a3, mJ] [.ref b0] w = (if (mI w a3 2) = (mI w b0 2) then mX d 10 30 [mJ, .int x1, .int x2, .ref a3, .ref b0] [] w else mX d 10 25 [mJ, mJ, mJ, .ref a3, mJ] [] w) := by
  refine Eq.trans (X_astore (L' := [mJ, .int x1, .int x2, .ref a3, .ref b0]) f_10_11 (Nat.le_of_ble_eq_true rfl) rfl) ?_
  refine Eq.trans (X_st f_10_13 rfl rfl) ?_
  refine Eq.trans (X_getI f_10_14 h0 rfl) ?_
  refine Eq.trans (X_st f_10_17 rfl rfl) ?_
  refine Eq.trans (X_getI f_10_19 h1 rfl) ?_
  refine Eq.trans (X_br f_10_22 rfl rfl) ?_
  exact mIte_eq (mX_mask rfl) (mX_mask rfl)
theorem b_10_25 {d : Nat} {a3 : Nat} {w : MW} (h0 : mTg w a3 = 4) (h1 : mRk 2 (mI w a3 2) = true) : mX d 10 25 [mJ, mJ, mJ, .ref a3, mJ] [] w = some (.inl (some (.int (mI w a3 2))), w) := by
  refine Eq.trans (X_st f_10_25 rfl rfl) ?_
  refine Eq.trans (X_getI f_10_26 h0 rfl) ?_
  exact X_ireturn f_10_29 h1
theorem b_10_30 {d : Nat} {x1 : Int32} {x2 : Int32} {a3 : Nat} {a4 : Nat} {w : MW} (h0 : mTg w a3 = 4) (h1 : mTg w a4 = 4) : mX d 10 30 [mJ, .int x1, .int x2, .ref a3, .ref a4] [] w = (if (mI w a3 5) = (mI w a4 5) then mX d 10 62 [mJ, .int x1, .int x2, mJ, mJ] [] w else mX d 10 42 [mJ, mJ, mJ, .ref a3, .ref a4] [] w) := by
  refine Eq.trans (X_st f_10_30 rfl rfl) ?_
  refine Eq.trans (X_getI f_10_31 h0 rfl) ?_
  refine Eq.trans (X_st f_10_34 rfl rfl) ?_
  refine Eq.trans (X_getI f_10_36 h1 rfl) ?_
  refine Eq.trans (X_br f_10_39 rfl rfl) ?_
  exact mIte_eq (mX_mask rfl) (mX_mask rfl)
theorem b_10_42 {d : Nat} {a3 : Nat} {a4 : Nat} {w : MW} (h0 : mTg w a3 = 4) (h1 : mTg w a4 = 4) : mX d 10 42 [mJ, mJ, mJ, .ref a3, .ref a4] [] w = (if (mI w a3 5) ≤ (mI w a4 5) then mX d 10 58 [mJ, mJ, mJ, mJ, mJ] [] w else mX d 10 54 [mJ, mJ, mJ, mJ, mJ] [] w) := by
  refine Eq.trans (X_st f_10_42 rfl rfl) ?_
  refine Eq.trans (X_getI f_10_43 h0 rfl) ?_
  refine Eq.trans (X_st f_10_46 rfl rfl) ?_
  refine Eq.trans (X_getI f_10_48 h1 rfl) ?_
  refine Eq.trans (X_br f_10_51 rfl rfl) ?_
  exact mIte_eq (mX_mask rfl) (mX_mask rfl)
theorem b_10_54 {d : Nat} {w : MW} : mX d 10 54 [mJ, mJ, mJ, mJ, mJ] [] w = mX d 10 72 [mJ, mJ, mJ, mJ, mJ] [.int (nI 1)] w := by
  refine Eq.trans (X_iconst f_10_54 kc_i_1) ?_
  refine Eq.trans (X_st f_10_55 rfl rfl) ?_
  exact mX_mask rfl
theorem b_10_58 {d : Nat} {w : MW} : mX d 10 58 [mJ, mJ, mJ, mJ, mJ] [] w = mX d 10 72 [mJ, mJ, mJ, mJ, mJ] [.int (nI 0)] w := by
  refine Eq.trans (X_iconst f_10_58 kc_i_0) ?_
  refine Eq.trans (X_st f_10_59 rfl rfl) ?_
  exact mX_mask rfl
theorem b_10_62 {d : Nat} {x1 : Int32} {x2 : Int32} {w : MW} : mX d 10 62 [mJ, .int x1, .int x2, mJ, mJ] [] w = (if x2 ≤ x1 then mX d 10 71 [mJ, mJ, mJ, mJ, mJ] [] w else mX d 10 67 [mJ, mJ, mJ, mJ, mJ] [] w) := by
  refine Eq.trans (X_st f_10_62 rfl rfl) ?_
  refine Eq.trans (X_st f_10_63 rfl rfl) ?_
  refine Eq.trans (X_br f_10_64 rfl rfl) ?_
  exact mIte_eq (mX_mask rfl) (mX_mask rfl)
theorem b_10_67 {d : Nat} {w : MW} : mX d 10 67 [mJ, mJ, mJ, mJ, mJ] [] w = mX d 10 72 [mJ, mJ, mJ, mJ, mJ] [.int (nI 1)] w := by
  refine Eq.trans (X_iconst f_10_67 kc_i_1) ?_
  refine Eq.trans (X_st f_10_68 rfl rfl) ?_
  exact mX_mask rfl
theorem b_10_71 {d : Nat} {w : MW} : mX d 10 71 [mJ, mJ, mJ, mJ, mJ] [] w = mX d 10 72 [mJ, mJ, mJ, mJ, mJ] [.int (nI 0)] w := by
  refine Eq.trans (X_iconst f_10_71 kc_i_0) ?_
  exact mX_mask rfl
theorem b_10_72 {d : Nat} {y0 : Int32} {w : MW} (h0 : mRk 2 y0 = true) : mX d 10 72 [mJ, mJ, mJ, mJ, mJ] [.int y0] w = some (.inl (some (.int y0)), w) := by
  exact X_ireturn f_10_72 h0
/-! BeeTurnpike$Bee strength (II)I -/
theorem f_11_0 : mFetch 11 0 = some (.aload_n 0, 1, []) := by decide +kernel
theorem f_11_1 : mFetch 11 1 = some (.iload_n 1, 1, []) := by decide +kernel
theorem f_11_2 : mFetch 11 2 = some (.invokevirtual 72, 3, [1, 2, 2, 0, 575, 576, 577]) := by decide +kernel
theorem f_11_5 : mFetch 11 5 = some (.astore_n 3, 1, []) := by decide +kernel
theorem f_11_6 : mFetch 11 6 = some (.iconst 0, 1, []) := by decide +kernel
theorem f_11_7 : mFetch 11 7 = some (.istore 4, 2, []) := by decide +kernel
theorem f_11_9 : mFetch 11 9 = some (.iconst 0, 1, []) := by decide +kernel
theorem f_11_10 : mFetch 11 10 = some (.istore 5, 2, []) := by decide +kernel
theorem f_11_12 : mFetch 11 12 = some (.iload 5, 2, []) := by decide +kernel
theorem f_11_14 : mFetch 11 14 = some (.aload_n 0, 1, []) := by decide +kernel
theorem f_11_15 : mFetch 11 15 = some (.getfield 43, 3, [0, 0, 0, 394]) := by decide +kernel
theorem f_11_18 : mFetch 11 18 = some (.getfield 122, 3, [8, 5, 1, 17]) := by decide +kernel
theorem f_11_21 : mFetch 11 21 = some (.iload_n 2, 1, []) := by decide +kernel
theorem f_11_22 : mFetch 11 22 = some (.invokestatic 108, 3, [123, 2, 1, 0, 14, 559]) := by decide +kernel
theorem f_11_25 : mFetch 11 25 = some (.if_icmp .ge 96, 3, [121]) := by decide +kernel
theorem f_11_28 : mFetch 11 28 = some (.aload_n 0, 1, []) := by decide +kernel
theorem f_11_29 : mFetch 11 29 = some (.getfield 43, 3, [0, 0, 0, 394]) := by decide +kernel
theorem f_11_32 : mFetch 11 32 = some (.iload_n 2, 1, []) := by decide +kernel
theorem f_11_33 : mFetch 11 33 = some (.iload 5, 2, []) := by decide +kernel
theorem f_11_35 : mFetch 11 35 = some (.invokevirtual 125, 3, [88, 3, 2, 8, 637, 598, 599]) := by decide +kernel
theorem f_11_38 : mFetch 11 38 = some (.istore 6, 2, []) := by decide +kernel
theorem f_11_40 : mFetch 11 40 = some (.aload_n 0, 1, []) := by decide +kernel
theorem f_11_41 : mFetch 11 41 = some (.getfield 43, 3, [0, 0, 0, 394]) := by decide +kernel
theorem f_11_44 : mFetch 11 44 = some (.getfield 129, 3, [8, 2, 1, 18]) := by decide +kernel
theorem f_11_47 : mFetch 11 47 = some (.iload 6, 2, []) := by decide +kernel
theorem f_11_49 : mFetch 11 49 = some (.invokestatic 108, 3, [123, 2, 1, 0, 14, 559]) := by decide +kernel
theorem f_11_52 : mFetch 11 52 = some (.istore 7, 2, []) := by decide +kernel
theorem f_11_54 : mFetch 11 54 = some (.iconst 5, 1, []) := by decide +kernel
theorem f_11_55 : mFetch 11 55 = some (.aload_n 3, 1, []) := by decide +kernel
theorem f_11_56 : mFetch 11 56 = some (.getfield 132, 3, [4, 1, 1, 19]) := by decide +kernel
theorem f_11_59 : mFetch 11 59 = some (.iload 6, 2, []) := by decide +kernel
theorem f_11_61 : mFetch 11 61 = some (.invokestatic 108, 3, [123, 2, 1, 0, 14, 559]) := by decide +kernel
theorem f_11_64 : mFetch 11 64 = some (.invokestatic 135, 3, [183, 2, 0, 0, 638, 639]) := by decide +kernel
theorem f_11_67 : mFetch 11 67 = some (.istore 8, 2, []) := by decide +kernel
theorem f_11_69 : mFetch 11 69 = some (.aload_n 3, 1, []) := by decide +kernel
theorem f_11_70 : mFetch 11 70 = some (.getfield 140, 3, [4, 0, 1, 20]) := by decide +kernel
theorem f_11_73 : mFetch 11 73 = some (.iload 7, 2, []) := by decide +kernel
theorem f_11_75 : mFetch 11 75 = some (.invokestatic 108, 3, [123, 2, 1, 0, 14, 559]) := by decide +kernel
theorem f_11_78 : mFetch 11 78 = some (.aload_n 0, 1, []) := by decide +kernel
theorem f_11_79 : mFetch 11 79 = some (.getfield 43, 3, [0, 0, 0, 394]) := by decide +kernel
theorem f_11_82 : mFetch 11 82 = some (.getfield 143, 3, [8, 1, 1, 21]) := by decide +kernel
theorem f_11_85 : mFetch 11 85 = some (.iload 7, 2, []) := by decide +kernel
theorem f_11_87 : mFetch 11 87 = some (.invokestatic 108, 3, [123, 2, 1, 0, 14, 559]) := by decide +kernel
theorem f_11_90 : mFetch 11 90 = some (.iadd, 1, []) := by decide +kernel
theorem f_11_91 : mFetch 11 91 = some (.iload 8, 2, []) := by decide +kernel
theorem f_11_93 : mFetch 11 93 = some (.iadd, 1, []) := by decide +kernel
theorem f_11_94 : mFetch 11 94 = some (.istore 9, 2, []) := by decide +kernel
theorem f_11_96 : mFetch 11 96 = some (.iload 5, 2, []) := by decide +kernel
theorem f_11_98 : mFetch 11 98 = some (.ifCond .ne 8, 3, [106]) := by decide +kernel
theorem f_11_101 : mFetch 11 101 = some (.iload 9, 2, []) := by decide +kernel
theorem f_11_103 : mFetch 11 103 = some (.goto 10, 3, [113]) := by decide +kernel
theorem f_11_106 : mFetch 11 106 = some (.iload 4, 2, []) := by decide +kernel
theorem f_11_108 : mFetch 11 108 = some (.iload 9, 2, []) := by decide +kernel
theorem f_11_110 : mFetch 11 110 = some (.invokestatic 135, 3, [183, 2, 0, 0, 638, 639]) := by decide +kernel
theorem f_11_113 : mFetch 11 113 = some (.istore 4, 2, []) := by decide +kernel
theorem f_11_115 : mFetch 11 115 = some (.iinc 5 1, 3, []) := by decide +kernel
theorem f_11_118 : mFetch 11 118 = some (.goto (-106), 3, [12]) := by decide +kernel
theorem f_11_121 : mFetch 11 121 = some (.iload_n 1, 1, []) := by decide +kernel
theorem f_11_122 : mFetch 11 122 = some (.aload_n 0, 1, []) := by decide +kernel
theorem f_11_123 : mFetch 11 123 = some (.getfield 39, 3, [0, 11, 0, 411]) := by decide +kernel
theorem f_11_126 : mFetch 11 126 = some (.if_icmp .ne 15, 3, [141]) := by decide +kernel
theorem f_11_129 : mFetch 11 129 = some (.iload_n 2, 1, []) := by decide +kernel
theorem f_11_130 : mFetch 11 130 = some (.aload_n 0, 1, []) := by decide +kernel
theorem f_11_131 : mFetch 11 131 = some (.invokevirtual 146, 3, [5, 1, 2, 0, 641, 554, 555]) := by decide +kernel
theorem f_11_134 : mFetch 11 134 = some (.if_icmp .ne 7, 3, [141]) := by decide +kernel
theorem f_11_137 : mFetch 11 137 = some (.iconst 1, 1, []) := by decide +kernel
theorem f_11_138 : mFetch 11 138 = some (.goto 4, 3, [142]) := by decide +kernel
theorem f_11_141 : mFetch 11 141 = some (.iconst 0, 1, []) := by decide +kernel
theorem f_11_142 : mFetch 11 142 = some (.istore 5, 2, []) := by decide +kernel
theorem f_11_144 : mFetch 11 144 = some (.iload 5, 2, []) := by decide +kernel
theorem f_11_146 : mFetch 11 146 = some (.ifCond .eq 15, 3, [161]) := by decide +kernel
theorem f_11_149 : mFetch 11 149 = some (.iload 4, 2, []) := by decide +kernel
theorem f_11_151 : mFetch 11 151 = some (.iconst 3, 1, []) := by decide +kernel
theorem f_11_152 : mFetch 11 152 = some (.aload_n 0, 1, []) := by decide +kernel
theorem f_11_153 : mFetch 11 153 = some (.getfield 59, 3, [0, 12, 0, 414]) := by decide +kernel
theorem f_11_156 : mFetch 11 156 = some (.imul, 1, []) := by decide +kernel
theorem f_11_157 : mFetch 11 157 = some (.iadd, 1, []) := by decide +kernel
theorem f_11_158 : mFetch 11 158 = some (.goto 5, 3, [163]) := by decide +kernel
theorem f_11_161 : mFetch 11 161 = some (.iload 4, 2, []) := by decide +kernel
theorem f_11_163 : mFetch 11 163 = some (.ireturn, 1, [0]) := by decide +kernel
theorem b_11_0 {d : Nat} {a0 : Nat} {x1 : Int32} {x2 : Int32} {w : MW} (h0 : mTg w a0 = 0) : mX (d + 1) 11 0 [.ref a0, .int x1, .int x2, mJ, mJ, mJ, mJ, mJ, mJ, mJ] [] w = mThen (mK d 1 [.ref a0, .int x1] w) (fun v w9 => mX (d + 1) 11 5 [.ref a0, .int x1, .int x2, mJ, mJ, mJ, mJ, mJ, mJ, mJ] (v.toList ++ []) w9) := by
  refine Eq.trans (X_st f_11_0 rfl rfl) ?_
  refine Eq.trans (X_st f_11_1 rfl rfl) ?_
  refine Eq.trans (X_call f_11_2 (by decide) rfl rfl rfl rfl rfl rfl (Nat.le_of_ble_eq_true rfl) (Nat.le_of_ble_eq_true rfl) (decide_eq_true h0) (Nat.le_of_ble_eq_true rfl)) ?_
  exact mThen_eq fun v w9 => mX_mask rfl
theorem e_11 {d : Nat} {a0 : Nat} {x1 : Int32} {x2 : Int32} {w : MW} : mK d 11 [.ref a0, .int x1, .int x2] w = mX d 11 0 [.ref a0, .int x1, .int x2, mJ, mJ, mJ, mJ, mJ, mJ, mJ] [] w := rfl
theorem b_11_5 {d : Nat} {a0 : Nat} {x1 : Int32} {x2 : Int32} {b0 : Nat} {w : MW} : mX d 11 5 [.ref a0, .int x1, .int x2, mJ, mJ, mJ, mJ, mJ, mJ, mJ] [.ref b0] w = mX d 11 12 [.ref a0, .int x1, .int x2, .ref b0, .int (nI 0), .int (nI 0), mJ, mJ, mJ, mJ] [] w := by
  refine Eq.trans (X_astore_n (L' := [.ref a0, .int x1, .int x2, .ref b0, mJ, mJ, mJ, mJ, mJ, mJ]) f_11_5 (Nat.le_of_ble_eq_true rfl) rfl) ?_
  refine Eq.trans (X_iconst f_11_6 kc_i_0) ?_
  refine Eq.trans (X_istore (L' := [.ref a0, .int x1, .int x2, .ref b0, .int (nI 0), mJ, mJ, mJ, mJ, mJ]) f_11_7 (Nat.le_of_ble_eq_true rfl) rfl) ?_
  refine Eq.trans (X_iconst f_11_9 kc_i_0) ?_
  refine Eq.trans (X_istore (L' := [.ref a0, .int x1, .int x2, .ref b0, .int (nI 0), .int (nI 0), mJ, mJ, mJ, mJ]) f_11_10 (Nat.le_of_ble_eq_true rfl) rfl) ?_
  exact mX_mask rfl
theorem b_11_12 {d : Nat} {a0 : Nat} {x1 : Int32} {x2 : Int32} {a3 : Nat} {x4 : Int32} {x5 : Int32} {w : MW} (h0 : mTg w a0 = 0) (h1 : mR w a0 0 = some (gR w a0 0)) (h2 : mTg w (gR w a0 0) = 8) (h3 : mR w (gR w a0 0) 5 = some (gR w (gR w a0 0) 5)) : mX (d + 1) 11 12 [.ref a0, .int x1, .int x2, .ref a3, .int x4, .int x5, mJ, mJ, mJ, mJ] [] w = mThen (mK d 123 [.ref (gR w (gR w a0 0) 5), .int x2] w) (fun v w9 => mX (d + 1) 11 25 [.ref a0, .int x1, .int x2, .ref a3, .int x4, .int x5, mJ, mJ, mJ, mJ] (v.toList ++ [.int x5]) w9) := by
  refine Eq.trans (X_st f_11_12 rfl rfl) ?_
  refine Eq.trans (X_st f_11_14 rfl rfl) ?_
  refine Eq.trans (X_getR f_11_15 h0 rfl h1) ?_
  refine Eq.trans (X_getR f_11_18 h2 rfl h3) ?_
  refine Eq.trans (X_st f_11_21 rfl rfl) ?_
  refine Eq.trans (X_call f_11_22 (by decide) rfl rfl rfl rfl rfl rfl (Nat.le_of_ble_eq_true rfl) (Nat.le_of_ble_eq_true rfl) rfl (Nat.le_of_ble_eq_true rfl)) ?_
  exact mThen_eq fun v w9 => mX_mask rfl
theorem b_11_25 {d : Nat} {a0 : Nat} {x1 : Int32} {x2 : Int32} {a3 : Nat} {x4 : Int32} {x5 : Int32} {y0 : Int32} {y1 : Int32} {w : MW} : mX d 11 25 [.ref a0, .int x1, .int x2, .ref a3, .int x4, .int x5, mJ, mJ, mJ, mJ] [.int y0, .int y1] w = (if y0 ≤ y1 then mX d 11 121 [.ref a0, .int x1, .int x2, mJ, .int x4, mJ, mJ, mJ, mJ, mJ] [] w else mX d 11 28 [.ref a0, .int x1, .int x2, .ref a3, .int x4, .int x5, mJ, mJ, mJ, mJ] [] w) := by
  refine Eq.trans (X_br f_11_25 rfl rfl) ?_
  exact mIte_eq (mX_mask rfl) (mX_mask rfl)
theorem b_11_28 {d : Nat} {a0 : Nat} {x1 : Int32} {x2 : Int32} {a3 : Nat} {x4 : Int32} {x5 : Int32} {w : MW} (h0 : mTg w a0 = 0) (h1 : mR w a0 0 = some (gR w a0 0)) (h2 : mTg w (gR w a0 0) = 8) : mX (d + 1) 11 28 [.ref a0, .int x1, .int x2, .ref a3, .int x4, .int x5, mJ, mJ, mJ, mJ] [] w = mThen (mK d 88 [.ref (gR w a0 0), .int x2, .int x5] w) (fun v w9 => mX (d + 1) 11 38 [.ref a0, .int x1, .int x2, .ref a3, .int x4, .int x5, mJ, mJ, mJ, mJ] (v.toList ++ []) w9) := by
  refine Eq.trans (X_st f_11_28 rfl rfl) ?_
  refine Eq.trans (X_getR f_11_29 h0 rfl h1) ?_
  refine Eq.trans (X_st f_11_32 rfl rfl) ?_
  refine Eq.trans (X_st f_11_33 rfl rfl) ?_
  refine Eq.trans (X_call f_11_35 (by decide) rfl rfl rfl rfl rfl rfl (Nat.le_of_ble_eq_true rfl) (Nat.le_of_ble_eq_true rfl) (decide_eq_true h2) (Nat.le_of_ble_eq_true rfl)) ?_
  exact mThen_eq fun v w9 => mX_mask rfl
theorem b_11_38 {d : Nat} {a0 : Nat} {x1 : Int32} {x2 : Int32} {a3 : Nat} {x4 : Int32} {x5 : Int32} {y0 : Int32} {w : MW} (h0 : mTg w a0 = 0) (h1 : mR w a0 0 = some (gR w a0 0)) (h2 : mTg w (gR w a0 0) = 8) (h3 : mR w (gR w a0 0) 2 = some (gR w (gR w a0 0) 2)) : mX (d + 1) 11 38 [.ref a0, .int x1, .int x2, .ref a3, .int x4, .int x5, mJ, mJ, mJ, mJ] [.int y0] w = mThen (mK d 123 [.ref (gR w (gR w a0 0) 2), .int y0] w) (fun v w9 => mX (d + 1) 11 52 [.ref a0, .int x1, .int x2, .ref a3, .int x4, .int x5, .int y0, mJ, mJ, mJ] (v.toList ++ []) w9) := by
  refine Eq.trans (X_istore (L' := [.ref a0, .int x1, .int x2, .ref a3, .int x4, .int x5, .int y0, mJ, mJ, mJ]) f_11_38 (Nat.le_of_ble_eq_true rfl) rfl) ?_
  refine Eq.trans (X_st f_11_40 rfl rfl) ?_
  refine Eq.trans (X_getR f_11_41 h0 rfl h1) ?_
  refine Eq.trans (X_getR f_11_44 h2 rfl h3) ?_
  refine Eq.trans (X_st f_11_47 rfl rfl) ?_
  refine Eq.trans (X_call f_11_49 (by decide) rfl rfl rfl rfl rfl rfl (Nat.le_of_ble_eq_true rfl) (Nat.le_of_ble_eq_true rfl) rfl (Nat.le_of_ble_eq_true rfl)) ?_
  exact mThen_eq fun v w9 => mX_mask rfl
theorem b_11_52 {d : Nat} {a0 : Nat} {x1 : Int32} {x2 : Int32} {a3 : Nat} {x4 : Int32} {x5 : Int32} {x6 : Int32} {y0 : Int32} {w : MW} (h0 : mTg w a3 = 4) (h1 : mR w a3 1 = some (gR w a3 1)) : mX (d + 1) 11 52 [.ref a0, .int x1, .int x2, .ref a3, .int x4, .int x5, .int x6, mJ, mJ, mJ] [.int y0] w = mThen (mK d 123 [.ref (gR w a3 1), .int x6] w) (fun v w9 => mX (d + 1) 11 64 [.ref a0, .int x1, .int x2, .ref a3, .int x4, .int x5, mJ, .int y0, mJ, mJ] (v.toList ++ [.int (nI 5)]) w9) := by
  refine Eq.trans (X_istore (L' := [.ref a0, .int x1, .int x2, .ref a3, .int x4, .int x5, .int x6, .int y0, mJ, mJ]) f_11_52 (Nat.le_of_ble_eq_true rfl) rfl) ?_
  refine Eq.trans (X_iconst f_11_54 kc_i_5) ?_
  refine Eq.trans (X_st f_11_55 rfl rfl) ?_
  refine Eq.trans (X_getR f_11_56 h0 rfl h1) ?_
  refine Eq.trans (X_st f_11_59 rfl rfl) ?_
  refine Eq.trans (X_call f_11_61 (by decide) rfl rfl rfl rfl rfl rfl (Nat.le_of_ble_eq_true rfl) (Nat.le_of_ble_eq_true rfl) rfl (Nat.le_of_ble_eq_true rfl)) ?_
  exact mThen_eq fun v w9 => mX_mask rfl
theorem b_11_64 {d : Nat} {a0 : Nat} {x1 : Int32} {x2 : Int32} {a3 : Nat} {x4 : Int32} {x5 : Int32} {x7 : Int32} {y0 : Int32} {y1 : Int32} {w : MW} : mX (d + 1) 11 64 [.ref a0, .int x1, .int x2, .ref a3, .int x4, .int x5, mJ, .int x7, mJ, mJ] [.int y0, .int y1] w = mThen (mK d 183 [.int y1, .int y0] w) (fun v w9 => mX (d + 1) 11 67 [.ref a0, .int x1, .int x2, .ref a3, .int x4, .int x5, mJ, .int x7, mJ, mJ] (v.toList ++ []) w9) := by
  refine Eq.trans (X_call f_11_64 (by decide) rfl rfl rfl rfl rfl rfl (Nat.le_of_ble_eq_true rfl) (Nat.le_of_ble_eq_true rfl) rfl (Nat.le_of_ble_eq_true rfl)) ?_
  exact mThen_eq fun v w9 => mX_mask rfl
theorem b_11_67 {d : Nat} {a0 : Nat} {x1 : Int32} {x2 : Int32} {a3 : Nat} {x4 : Int32} {x5 : Int32} {x7 : Int32} {y0 : Int32} {w : MW} (h0 : mTg w a3 = 4) (h1 : mR w a3 0 = some (gR w a3 0)) : mX (d + 1) 11 67 [.ref a0, .int x1, .int x2, .ref a3, .int x4, .int x5, mJ, .int x7, mJ, mJ] [.int y0] w = mThen (mK d 123 [.ref (gR w a3 0), .int x7] w) (fun v w9 => mX (d + 1) 11 78 [.ref a0, .int x1, .int x2, .ref a3, .int x4, .int x5, mJ, .int x7, .int y0, mJ] (v.toList ++ []) w9) := by
  refine Eq.trans (X_istore (L' := [.ref a0, .int x1, .int x2, .ref a3, .int x4, .int x5, mJ, .int x7, .int y0, mJ]) f_11_67 (Nat.le_of_ble_eq_true rfl) rfl) ?_
  refine Eq.trans (X_st f_11_69 rfl rfl) ?_
  refine Eq.trans (X_getR f_11_70 h0 rfl h1) ?_
  refine Eq.trans (X_st f_11_73 rfl rfl) ?_
  refine Eq.trans (X_call f_11_75 (by decide) rfl rfl rfl rfl rfl rfl (Nat.le_of_ble_eq_true rfl) (Nat.le_of_ble_eq_true rfl) rfl (Nat.le_of_ble_eq_true rfl)) ?_
  exact mThen_eq fun v w9 => mX_mask rfl
theorem b_11_78 {d : Nat} {a0 : Nat} {x1 : Int32} {x2 : Int32} {a3 : Nat} {x4 : Int32} {x5 : Int32} {x7 : Int32} {x8 : Int32} {y0 : Int32} {w : MW} (h0 : mTg w a0 = 0) (h1 : mR w a0 0 = some (gR w a0 0)) (h2 : mTg w (gR w a0 0) = 8) (h3 : mR w (gR w a0 0) 1 = some (gR w (gR w a0 0) 1)) : mX (d + 1) 11 78 [.ref a0, .int x1, .int x2, .ref a3, .int x4, .int x5, mJ, .int x7, .int x8, mJ] [.int y0] w = mThen (mK d 123 [.ref (gR w (gR w a0 0) 1), .int x7] w) (fun v w9 => mX (d + 1) 11 90 [.ref a0, .int x1, .int x2, .ref a3, .int x4, .int x5, mJ, mJ, .int x8, mJ] (v.toList ++ [.int y0]) w9) := by
  refine Eq.trans (X_st f_11_78 rfl rfl) ?_
  refine Eq.trans (X_getR f_11_79 h0 rfl h1) ?_
  refine Eq.trans (X_getR f_11_82 h2 rfl h3) ?_
  refine Eq.trans (X_st f_11_85 rfl rfl) ?_
  refine Eq.trans (X_call f_11_87 (by decide) rfl rfl rfl rfl rfl rfl (Nat.le_of_ble_eq_true rfl) (Nat.le_of_ble_eq_true rfl) rfl (Nat.le_of_ble_eq_true rfl)) ?_
  exact mThen_eq fun v w9 => mX_mask rfl
theorem b_11_90 {d : Nat} {a0 : Nat} {x1 : Int32} {x2 : Int32} {a3 : Nat} {x4 : Int32} {x5 : Int32} {x8 : Int32} {y0 : Int32} {y1 : Int32} {w : MW} : mX d 11 90 [.ref a0, .int x1, .int x2, .ref a3, .int x4, .int x5, mJ, mJ, .int x8, mJ] [.int y0, .int y1] w = (if ¬ x5 = nI 0 then mX d 11 106 [.ref a0, .int x1, .int x2, .ref a3, .int x4, .int x5, mJ, mJ, mJ, .int ((y1 + y0) + x8)] [] w else mX d 11 101 [.ref a0, .int x1, .int x2, .ref a3, mJ, .int x5, mJ, mJ, mJ, .int ((y1 + y0) + x8)] [] w) := by
  refine Eq.trans (X_st f_11_90 rfl rfl) ?_
  refine Eq.trans (X_st f_11_91 rfl rfl) ?_
  refine Eq.trans (X_st f_11_93 rfl rfl) ?_
  refine Eq.trans (X_istore (L' := [.ref a0, .int x1, .int x2, .ref a3, .int x4, .int x5, mJ, mJ, .int x8, .int ((y1 + y0) + x8)]) f_11_94 (Nat.le_of_ble_eq_true rfl) rfl) ?_
  refine Eq.trans (X_st f_11_96 rfl rfl) ?_
  refine Eq.trans (X_br f_11_98 rfl rfl) ?_
  exact mIte_eq (mX_mask rfl) (mX_mask rfl)
theorem b_11_101 {d : Nat} {a0 : Nat} {x1 : Int32} {x2 : Int32} {a3 : Nat} {x5 : Int32} {x9 : Int32} {w : MW} : mX d 11 101 [.ref a0, .int x1, .int x2, .ref a3, mJ, .int x5, mJ, mJ, mJ, .int x9] [] w = mX d 11 113 [.ref a0, .int x1, .int x2, .ref a3, mJ, .int x5, mJ, mJ, mJ, mJ] [.int x9] w := by
  refine Eq.trans (X_st f_11_101 rfl rfl) ?_
  refine Eq.trans (X_st f_11_103 rfl rfl) ?_
  exact mX_mask rfl
theorem b_11_106 {d : Nat} {a0 : Nat} {x1 : Int32} {x2 : Int32} {a3 : Nat} {x4 : Int32} {x5 : Int32} {x9 : Int32} {w : MW} : mX (d + 1) 11 106 [.ref a0, .int x1, .int x2, .ref a3, .int x4, .int x5, mJ, mJ, mJ, .int x9] [] w = mThen (mK d 183 [.int x4, .int x9] w) (fun v w9 => mX (d + 1) 11 113 [.ref a0, .int x1, .int x2, .ref a3, mJ, .int x5, mJ, mJ, mJ, mJ] (v.toList ++ []) w9) := by
  refine Eq.trans (X_st f_11_106 rfl rfl) ?_
  refine Eq.trans (X_st f_11_108 rfl rfl) ?_
  refine Eq.trans (X_call f_11_110 (by decide) rfl rfl rfl rfl rfl rfl (Nat.le_of_ble_eq_true rfl) (Nat.le_of_ble_eq_true rfl) rfl (Nat.le_of_ble_eq_true rfl)) ?_
  exact mThen_eq fun v w9 => mX_mask rfl
theorem b_11_113 {d : Nat} {a0 : Nat} {x1 : Int32} {x2 : Int32} {a3 : Nat} {x5 : Int32} {y0 : Int32} {w : MW} : mX d 11 113 [.ref a0, .int x1, .int x2, .ref a3, mJ, .int x5, mJ, mJ, mJ, mJ] [.int y0] w = mX d 11 12 [.ref a0, .int x1, .int x2, .ref a3, .int y0, .int (x5 + (nI 1)), mJ, mJ, mJ, mJ] [] w := by
  refine Eq.trans (X_istore (L' := [.ref a0, .int x1, .int x2, .ref a3, .int y0, .int x5, mJ, mJ, mJ, mJ]) f_11_113 (Nat.le_of_ble_eq_true rfl) rfl) ?_
  refine Eq.trans (X_iinc f_11_115 kc_i_1 rfl rfl) ?_
  refine Eq.trans (X_st f_11_118 rfl rfl) ?_
  exact mX_mask rfl
theorem b_11_121 {d : Nat} {a0 : Nat} {x1 : Int32} {x2 : Int32} {x4 : Int32} {w : MW} (h0 : mTg w a0 = 0) : mX d 11 121 [.ref a0, .int x1, .int x2, mJ, .int x4, mJ, mJ, mJ, mJ, mJ] [] w = (if ¬ x1 = (mI w a0 11) then mX d 11 141 [.ref a0, mJ, mJ, mJ, .int x4, mJ, mJ, mJ, mJ, mJ] [] w else mX d 11 129 [.ref a0, mJ, .int x2, mJ, .int x4, mJ, mJ, mJ, mJ, mJ] [] w) := by
  refine Eq.trans (X_st f_11_121 rfl rfl) ?_
  refine Eq.trans (X_st f_11_122 rfl rfl) ?_
  refine Eq.trans (X_getI f_11_123 h0 rfl) ?_
  refine Eq.trans (X_br f_11_126 rfl rfl) ?_
  exact mIte_eq (mX_mask rfl) (mX_mask rfl)
theorem b_11_129 {d : Nat} {a0 : Nat} {x2 : Int32} {x4 : Int32} {w : MW} (h0 : mTg w a0 = 0) : mX (d + 1) 11 129 [.ref a0, mJ, .int x2, mJ, .int x4, mJ, mJ, mJ, mJ, mJ] [] w = mThen (mK d 5 [.ref a0] w) (fun v w9 => mX (d + 1) 11 134 [.ref a0, mJ, mJ, mJ, .int x4, mJ, mJ, mJ, mJ, mJ] (v.toList ++ [.int x2]) w9) := by
  refine Eq.trans (X_st f_11_129 rfl rfl) ?_
  refine Eq.trans (X_st f_11_130 rfl rfl) ?_
  refine Eq.trans (X_call f_11_131 (by decide) rfl rfl rfl rfl rfl rfl (Nat.le_of_ble_eq_true rfl) (Nat.le_of_ble_eq_true rfl) (decide_eq_true h0) (Nat.le_of_ble_eq_true rfl)) ?_
  exact mThen_eq fun v w9 => mX_mask rfl
theorem b_11_134 {d : Nat} {a0 : Nat} {x4 : Int32} {y0 : Int32} {y1 : Int32} {w : MW} : mX d 11 134 [.ref a0, mJ, mJ, mJ, .int x4, mJ, mJ, mJ, mJ, mJ] [.int y0, .int y1] w = (if ¬ y1 = y0 then mX d 11 141 [.ref a0, mJ, mJ, mJ, .int x4, mJ, mJ, mJ, mJ, mJ] [] w else mX d 11 137 [.ref a0, mJ, mJ, mJ, .int x4, mJ, mJ, mJ, mJ, mJ] [] w) := by
  refine Eq.trans (X_br f_11_134 rfl rfl) ?_
  exact mIte_eq (mX_mask rfl) (mX_mask rfl)
theorem b_11_137 {d : Nat} {a0 : Nat} {x4 : Int32} {w : MW} : mX d 11 137 [.ref a0, mJ, mJ, mJ, .int x4, mJ, mJ, mJ, mJ, mJ] [] w = mX d 11 142 [.ref a0, mJ, mJ, mJ, .int x4, mJ, mJ, mJ, mJ, mJ] [.int (nI 1)] w := by
  refine Eq.trans (X_iconst f_11_137 kc_i_1) ?_
  refine Eq.trans (X_st f_11_138 rfl rfl) ?_
  exact mX_mask rfl
theorem b_11_141 {d : Nat} {a0 : Nat} {x4 : Int32} {w : MW} : mX d 11 141 [.ref a0, mJ, mJ, mJ, .int x4, mJ, mJ, mJ, mJ, mJ] [] w = mX d 11 142 [.ref a0, mJ, mJ, mJ, .int x4, mJ, mJ, mJ, mJ, mJ] [.int (nI 0)] w := by
  refine Eq.trans (X_iconst f_11_141 kc_i_0) ?_
  exact mX_mask rfl
theorem b_11_142 {d : Nat} {a0 : Nat} {x4 : Int32} {y0 : Int32} {w : MW} : mX d 11 142 [.ref a0, mJ, mJ, mJ, .int x4, mJ, mJ, mJ, mJ, mJ] [.int y0] w = (if y0 = nI 0 then mX d 11 161 [mJ, mJ, mJ, mJ, .int x4, mJ, mJ, mJ, mJ, mJ] [] w else mX d 11 149 [.ref a0, mJ, mJ, mJ, .int x4, mJ, mJ, mJ, mJ, mJ] [] w) := by
  refine Eq.trans (X_istore (L' := [.ref a0, mJ, mJ, mJ, .int x4, .int y0, mJ, mJ, mJ, mJ]) f_11_142 (Nat.le_of_ble_eq_true rfl) rfl) ?_
  refine Eq.trans (X_st f_11_144 rfl rfl) ?_
  refine Eq.trans (X_br f_11_146 rfl rfl) ?_
  exact mIte_eq (mX_mask rfl) (mX_mask rfl)
theorem b_11_149 {d : Nat} {a0 : Nat} {x4 : Int32} {w : MW} (h0 : mTg w a0 = 0) : mX d 11 149 [.ref a0, mJ, mJ, mJ, .int x4, mJ, mJ, mJ, mJ, mJ] [] w = mX d 11 163 [mJ, mJ, mJ, mJ, mJ, mJ, mJ, mJ, mJ, mJ] [.int (x4 + ((nI 3) * (mI w a0 12)))] w := by
  refine Eq.trans (X_st f_11_149 rfl rfl) ?_
  refine Eq.trans (X_iconst f_11_151 kc_i_3) ?_
  refine Eq.trans (X_st f_11_152 rfl rfl) ?_
  refine Eq.trans (X_getI f_11_153 h0 rfl) ?_
  refine Eq.trans (X_st f_11_156 rfl rfl) ?_
  refine Eq.trans (X_st f_11_157 rfl rfl) ?_
  refine Eq.trans (X_st f_11_158 rfl rfl) ?_
  exact mX_mask rfl
theorem b_11_161 {d : Nat} {x4 : Int32} {w : MW} : mX d 11 161 [mJ, mJ, mJ, mJ, .int x4, mJ, mJ, mJ, mJ, mJ] [] w = mX d 11 163 [mJ, mJ, mJ, mJ, mJ, mJ, mJ, mJ, mJ, mJ] [.int x4] w := by
  refine Eq.trans (X_st f_11_161 rfl rfl) ?_
  exact mX_mask rfl
theorem b_11_163 {d : Nat} {y0 : Int32} {w : MW} : mX d 11 163 [mJ, mJ, mJ, mJ, mJ, mJ, mJ, mJ, mJ, mJ] [.int y0] w = some (.inl (some (.int y0)), w) := by
  exact X_ireturn f_11_163 rfl
/-! BeeTurnpike$Bee can (I)Z -/
theorem f_12_0 : mFetch 12 0 = some (.aload_n 0, 1, []) := by decide +kernel
theorem f_12_1 : mFetch 12 1 = some (.invokevirtual 101, 3, [4, 1, 2, 0, 557, 550, 551]) := by decide +kernel
theorem f_12_4 : mFetch 12 4 = some (.ifCond .eq 5, 3, [9]) := by decide +kernel
theorem f_12_7 : mFetch 12 7 = some (.iconst 0, 1, []) := by decide +kernel
theorem f_12_8 : mFetch 12 8 = some (.ireturn, 1, [2]) := by decide +kernel
theorem f_12_9 : mFetch 12 9 = some (.aload_n 0, 1, []) := by decide +kernel
theorem f_12_10 : mFetch 12 10 = some (.aload_n 0, 1, []) := by decide +kernel
theorem f_12_11 : mFetch 12 11 = some (.getfield 39, 3, [0, 11, 0, 411]) := by decide +kernel
theorem f_12_14 : mFetch 12 14 = some (.invokevirtual 72, 3, [1, 2, 2, 0, 575, 576, 577]) := by decide +kernel
theorem f_12_17 : mFetch 12 17 = some (.astore_n 2, 1, []) := by decide +kernel
theorem f_12_18 : mFetch 12 18 = some (.iload_n 1, 1, []) := by decide +kernel
theorem f_12_19 : mFetch 12 19 = some (.lookupswitch 61 #[(1, 25), (2, 47)], 25, [80, 44, 66]) := by decide +kernel
theorem f_12_44 : mFetch 12 44 = some (.aload_n 0, 1, []) := by decide +kernel
theorem f_12_45 : mFetch 12 45 = some (.getfield 59, 3, [0, 12, 0, 414]) := by decide +kernel
theorem f_12_48 : mFetch 12 48 = some (.iconst 2, 1, []) := by decide +kernel
theorem f_12_49 : mFetch 12 49 = some (.if_icmp .ge 15, 3, [64]) := by decide +kernel
theorem f_12_52 : mFetch 12 52 = some (.aload_n 2, 1, []) := by decide +kernel
theorem f_12_53 : mFetch 12 53 = some (.getfield 119, 3, [4, 5, 1, 16]) := by decide +kernel
theorem f_12_56 : mFetch 12 56 = some (.iconst 1, 1, []) := by decide +kernel
theorem f_12_57 : mFetch 12 57 = some (.if_icmp .lt 7, 3, [64]) := by decide +kernel
theorem f_12_60 : mFetch 12 60 = some (.iconst 1, 1, []) := by decide +kernel
theorem f_12_61 : mFetch 12 61 = some (.goto 4, 3, [65]) := by decide +kernel
theorem f_12_64 : mFetch 12 64 = some (.iconst 0, 1, []) := by decide +kernel
theorem f_12_65 : mFetch 12 65 = some (.ireturn, 1, [2]) := by decide +kernel
theorem f_12_66 : mFetch 12 66 = some (.aload_n 2, 1, []) := by decide +kernel
theorem f_12_67 : mFetch 12 67 = some (.getfield 149, 3, [4, 7, 1, 22]) := by decide +kernel
theorem f_12_70 : mFetch 12 70 = some (.iconst 1, 1, []) := by decide +kernel
theorem f_12_71 : mFetch 12 71 = some (.if_icmp .lt 7, 3, [78]) := by decide +kernel
theorem f_12_74 : mFetch 12 74 = some (.iconst 1, 1, []) := by decide +kernel
theorem f_12_75 : mFetch 12 75 = some (.goto 4, 3, [79]) := by decide +kernel
theorem f_12_78 : mFetch 12 78 = some (.iconst 0, 1, []) := by decide +kernel
theorem f_12_79 : mFetch 12 79 = some (.ireturn, 1, [2]) := by decide +kernel
theorem f_12_80 : mFetch 12 80 = some (.iconst 1, 1, []) := by decide +kernel
theorem f_12_81 : mFetch 12 81 = some (.ireturn, 1, [2]) := by decide +kernel
theorem b_12_0 {d : Nat} {a0 : Nat} {x1 : Int32} {w : MW} (h0 : mTg w a0 = 0) : mX (d + 1) 12 0 [.ref a0, .int x1, mJ] [] w = mThen (mK d 4 [.ref a0] w) (fun v w9 => mX (d + 1) 12 4 [.ref a0, .int x1, mJ] (v.toList ++ []) w9) := by
  refine Eq.trans (X_st f_12_0 rfl rfl) ?_
  refine Eq.trans (X_call f_12_1 (by decide) rfl rfl rfl rfl rfl rfl (Nat.le_of_ble_eq_true rfl) (Nat.le_of_ble_eq_true rfl) (decide_eq_true h0) (Nat.le_of_ble_eq_true rfl)) ?_
  exact mThen_eq fun v w9 => mX_mask rfl
theorem e_12 {d : Nat} {a0 : Nat} {x1 : Int32} {w : MW} : mK d 12 [.ref a0, .int x1] w = mX d 12 0 [.ref a0, .int x1, mJ] [] w := rfl
theorem b_12_4 {d : Nat} {a0 : Nat} {x1 : Int32} {y0 : Int32} {w : MW} : mX d 12 4 [.ref a0, .int x1, mJ] [.int y0] w = (if y0 = nI 0 then mX d 12 9 [.ref a0, .int x1, mJ] [] w else mX d 12 7 [mJ, mJ, mJ] [] w) := by
  refine Eq.trans (X_br f_12_4 rfl rfl) ?_
  exact mIte_eq (mX_mask rfl) (mX_mask rfl)
theorem b_12_7 {d : Nat} {w : MW} : mX d 12 7 [mJ, mJ, mJ] [] w = some (.inl (some (.int (nI 0))), w) := by
  refine Eq.trans (X_iconst f_12_7 kc_i_0) ?_
  exact X_ireturn f_12_8 rfl
theorem b_12_9 {d : Nat} {a0 : Nat} {x1 : Int32} {w : MW} (h0 : mTg w a0 = 0) : mX (d + 1) 12 9 [.ref a0, .int x1, mJ] [] w = mThen (mK d 1 [.ref a0, .int (mI w a0 11)] w) (fun v w9 => mX (d + 1) 12 17 [.ref a0, .int x1, mJ] (v.toList ++ []) w9) := by
  refine Eq.trans (X_st f_12_9 rfl rfl) ?_
  refine Eq.trans (X_st f_12_10 rfl rfl) ?_
  refine Eq.trans (X_getI f_12_11 h0 rfl) ?_
  refine Eq.trans (X_call f_12_14 (by decide) rfl rfl rfl rfl rfl rfl (Nat.le_of_ble_eq_true rfl) (Nat.le_of_ble_eq_true rfl) (decide_eq_true h0) (Nat.le_of_ble_eq_true rfl)) ?_
  exact mThen_eq fun v w9 => mX_mask rfl
theorem s_12_17_1 {d : Nat} {a0 : Nat} {x1 : Int32} {b0 : Nat} {w : MW} (h0 : x1 = (nI 1)) : mX d 12 17 [.ref a0, .int x1, mJ] [.ref b0] w = mX d 12 44 [.ref a0, mJ, .ref b0] [] w := by
  refine Eq.trans (X_astore_n (L' := [.ref a0, .int x1, .ref b0]) f_12_17 (Nat.le_of_ble_eq_true rfl) rfl) ?_
  refine Eq.trans (X_st f_12_18 rfl rfl) ?_
  refine Eq.trans (X_sw f_12_19 rfl (congrArg Value.int h0) rfl) ?_
  exact mX_mask rfl
theorem s_12_17_2 {d : Nat} {a0 : Nat} {x1 : Int32} {b0 : Nat} {w : MW} (h0 : x1 = (nI 2)) : mX d 12 17 [.ref a0, .int x1, mJ] [.ref b0] w = mX d 12 66 [mJ, mJ, .ref b0] [] w := by
  refine Eq.trans (X_astore_n (L' := [.ref a0, .int x1, .ref b0]) f_12_17 (Nat.le_of_ble_eq_true rfl) rfl) ?_
  refine Eq.trans (X_st f_12_18 rfl rfl) ?_
  refine Eq.trans (X_sw f_12_19 rfl (congrArg Value.int h0) rfl) ?_
  exact mX_mask rfl
theorem s_12_17_d {d : Nat} {a0 : Nat} {x1 : Int32} {b0 : Nat} {w : MW} (h0 : ¬ (1 : Int) = (x1).toInt ∧ ¬ (2 : Int) = (x1).toInt) : mX d 12 17 [.ref a0, .int x1, mJ] [.ref b0] w = mX d 12 80 [mJ, mJ, mJ] [] w := by
  refine Eq.trans (X_astore_n (L' := [.ref a0, .int x1, .ref b0]) f_12_17 (Nat.le_of_ble_eq_true rfl) rfl) ?_
  refine Eq.trans (X_st f_12_18 rfl rfl) ?_
  refine Eq.trans (X_st f_12_19 rfl (by simp only [mstep, mLook, List.drop, List.getD_eq_getElem?_getD, h0.1, h0.2, if_false]; rfl)) ?_
  exact mX_mask rfl
theorem b_12_44 {d : Nat} {a0 : Nat} {a2 : Nat} {w : MW} (h0 : mTg w a0 = 0) : mX d 12 44 [.ref a0, mJ, .ref a2] [] w = (if (nI 2) ≤ (mI w a0 12) then mX d 12 64 [mJ, mJ, mJ] [] w else mX d 12 52 [mJ, mJ, .ref a2] [] w) := by
  refine Eq.trans (X_st f_12_44 rfl rfl) ?_
  refine Eq.trans (X_getI f_12_45 h0 rfl) ?_
  refine Eq.trans (X_iconst f_12_48 kc_i_2) ?_
  refine Eq.trans (X_br f_12_49 rfl rfl) ?_
  exact mIte_eq (mX_mask rfl) (mX_mask rfl)
theorem b_12_52 {d : Nat} {a2 : Nat} {w : MW} (h0 : mTg w a2 = 4) : mX d 12 52 [mJ, mJ, .ref a2] [] w = (if (mI w a2 5) < (nI 1) then mX d 12 64 [mJ, mJ, mJ] [] w else mX d 12 60 [mJ, mJ, mJ] [] w) := by
  refine Eq.trans (X_st f_12_52 rfl rfl) ?_
  refine Eq.trans (X_getI f_12_53 h0 rfl) ?_
  refine Eq.trans (X_iconst f_12_56 kc_i_1) ?_
  refine Eq.trans (X_br f_12_57 rfl rfl) ?_
  exact mIte_eq (mX_mask rfl) (mX_mask rfl)
theorem b_12_60 {d : Nat} {w : MW} : mX d 12 60 [mJ, mJ, mJ] [] w = mX d 12 65 [mJ, mJ, mJ] [.int (nI 1)] w := by
  refine Eq.trans (X_iconst f_12_60 kc_i_1) ?_
  refine Eq.trans (X_st f_12_61 rfl rfl) ?_
  exact mX_mask rfl
theorem b_12_64 {d : Nat} {w : MW} : mX d 12 64 [mJ, mJ, mJ] [] w = mX d 12 65 [mJ, mJ, mJ] [.int (nI 0)] w := by
  refine Eq.trans (X_iconst f_12_64 kc_i_0) ?_
  exact mX_mask rfl
theorem b_12_65 {d : Nat} {y0 : Int32} {w : MW} (h0 : mRk 2 y0 = true) : mX d 12 65 [mJ, mJ, mJ] [.int y0] w = some (.inl (some (.int y0)), w) := by
  exact X_ireturn f_12_65 h0
theorem b_12_66 {d : Nat} {a2 : Nat} {w : MW} (h0 : mTg w a2 = 4) : mX d 12 66 [mJ, mJ, .ref a2] [] w = (if (mI w a2 7) < (nI 1) then mX d 12 78 [mJ, mJ, mJ] [] w else mX d 12 74 [mJ, mJ, mJ] [] w) := by
  refine Eq.trans (X_st f_12_66 rfl rfl) ?_
  refine Eq.trans (X_getI f_12_67 h0 rfl) ?_
  refine Eq.trans (X_iconst f_12_70 kc_i_1) ?_
  refine Eq.trans (X_br f_12_71 rfl rfl) ?_
  exact mIte_eq (mX_mask rfl) (mX_mask rfl)
theorem b_12_74 {d : Nat} {w : MW} : mX d 12 74 [mJ, mJ, mJ] [] w = mX d 12 79 [mJ, mJ, mJ] [.int (nI 1)] w := by
  refine Eq.trans (X_iconst f_12_74 kc_i_1) ?_
  refine Eq.trans (X_st f_12_75 rfl rfl) ?_
  exact mX_mask rfl
theorem b_12_78 {d : Nat} {w : MW} : mX d 12 78 [mJ, mJ, mJ] [] w = mX d 12 79 [mJ, mJ, mJ] [.int (nI 0)] w := by
  refine Eq.trans (X_iconst f_12_78 kc_i_0) ?_
  exact mX_mask rfl
theorem b_12_79 {d : Nat} {y0 : Int32} {w : MW} (h0 : mRk 2 y0 = true) : mX d 12 79 [mJ, mJ, mJ] [.int y0] w = some (.inl (some (.int y0)), w) := by
  exact X_ireturn f_12_79 h0
theorem b_12_80 {d : Nat} {w : MW} : mX d 12 80 [mJ, mJ, mJ] [] w = some (.inl (some (.int (nI 1))), w) := by
  refine Eq.trans (X_iconst f_12_80 kc_i_1) ?_
  exact X_ireturn f_12_81 rfl
/-! BeeTurnpike$Bee doByHand (I)V -/
theorem f_13_0 : mFetch 13 0 = some (.iload_n 1, 1, []) := by decide +kernel
theorem f_13_1 : mFetch 13 1 = some (.iconst 1, 1, []) := by decide +kernel
theorem f_13_2 : mFetch 13 2 = some (.if_icmp .ne 10, 3, [12]) := by decide +kernel
theorem f_13_5 : mFetch 13 5 = some (.aload_n 0, 1, []) := by decide +kernel
theorem f_13_6 : mFetch 13 6 = some (.invokevirtual 152, 3, [14, 1, 2, 0, 706, 707, 708]) := by decide +kernel
theorem f_13_9 : mFetch 13 9 = some (.goto 16, 3, [25]) := by decide +kernel
theorem f_13_12 : mFetch 13 12 = some (.iload_n 1, 1, []) := by decide +kernel
theorem f_13_13 : mFetch 13 13 = some (.iconst 2, 1, []) := by decide +kernel
theorem f_13_14 : mFetch 13 14 = some (.if_icmp .ne 11, 3, [25]) := by decide +kernel
theorem f_13_17 : mFetch 13 17 = some (.aload_n 0, 1, []) := by decide +kernel
theorem f_13_18 : mFetch 13 18 = some (.invokevirtual 155, 3, [15, 1, 2, 0, 715, 716, 717]) := by decide +kernel
theorem f_13_21 : mFetch 13 21 = some (.aload_n 0, 1, []) := by decide +kernel
theorem f_13_22 : mFetch 13 22 = some (.invokevirtual 158, 3, [25, 1, 2, 0, 741, 742, 743]) := by decide +kernel
theorem f_13_25 : mFetch 13 25 = some (.return_, 1, []) := by decide +kernel
theorem b_13_0 {d : Nat} {a0 : Nat} {x1 : Int32} {w : MW} : mX d 13 0 [.ref a0, .int x1] [] w = (if ¬ x1 = (nI 1) then mX d 13 12 [.ref a0, .int x1] [] w else mX d 13 5 [.ref a0, mJ] [] w) := by
  refine Eq.trans (X_st f_13_0 rfl rfl) ?_
  refine Eq.trans (X_iconst f_13_1 kc_i_1) ?_
  refine Eq.trans (X_br f_13_2 rfl rfl) ?_
  exact mIte_eq (mX_mask rfl) (mX_mask rfl)
theorem e_13 {d : Nat} {a0 : Nat} {x1 : Int32} {w : MW} : mK d 13 [.ref a0, .int x1] w = mX d 13 0 [.ref a0, .int x1] [] w := rfl
theorem b_13_5 {d : Nat} {a0 : Nat} {w : MW} (h0 : mTg w a0 = 0) : mX (d + 1) 13 5 [.ref a0, mJ] [] w = mThen (mK d 14 [.ref a0] w) (fun v w9 => mX (d + 1) 13 9 [mJ, mJ] (v.toList ++ []) w9) := by
  refine Eq.trans (X_st f_13_5 rfl rfl) ?_
  refine Eq.trans (X_call f_13_6 (by decide) rfl rfl rfl rfl rfl rfl (Nat.le_of_ble_eq_true rfl) (Nat.le_of_ble_eq_true rfl) (decide_eq_true h0) (Nat.le_of_ble_eq_true rfl)) ?_
  exact mThen_eq fun v w9 => mX_mask rfl
theorem b_13_9 {d : Nat} {w : MW} : mX d 13 9 [mJ, mJ] [] w = mX d 13 25 [mJ, mJ] [] w := by
  refine Eq.trans (X_st f_13_9 rfl rfl) ?_
  exact mX_mask rfl
theorem b_13_12 {d : Nat} {a0 : Nat} {x1 : Int32} {w : MW} : mX d 13 12 [.ref a0, .int x1] [] w = (if ¬ x1 = (nI 2) then mX d 13 25 [mJ, mJ] [] w else mX d 13 17 [.ref a0, mJ] [] w) := by
  refine Eq.trans (X_st f_13_12 rfl rfl) ?_
  refine Eq.trans (X_iconst f_13_13 kc_i_2) ?_
  refine Eq.trans (X_br f_13_14 rfl rfl) ?_
  exact mIte_eq (mX_mask rfl) (mX_mask rfl)
theorem b_13_17 {d : Nat} {a0 : Nat} {w : MW} (h0 : mTg w a0 = 0) : mX (d + 1) 13 17 [.ref a0, mJ] [] w = mThen (mK d 15 [.ref a0] w) (fun v w9 => mX (d + 1) 13 21 [.ref a0, mJ] (v.toList ++ []) w9) := by
  refine Eq.trans (X_st f_13_17 rfl rfl) ?_
  refine Eq.trans (X_call f_13_18 (by decide) rfl rfl rfl rfl rfl rfl (Nat.le_of_ble_eq_true rfl) (Nat.le_of_ble_eq_true rfl) (decide_eq_true h0) (Nat.le_of_ble_eq_true rfl)) ?_
  exact mThen_eq fun v w9 => mX_mask rfl
theorem b_13_21 {d : Nat} {a0 : Nat} {w : MW} (h0 : mTg w a0 = 0) : mX (d + 1) 13 21 [.ref a0, mJ] [] w = mThen (mK d 25 [.ref a0] w) (fun v w9 => mX (d + 1) 13 25 [mJ, mJ] (v.toList ++ []) w9) := by
  refine Eq.trans (X_st f_13_21 rfl rfl) ?_
  refine Eq.trans (X_call f_13_22 (by decide) rfl rfl rfl rfl rfl rfl (Nat.le_of_ble_eq_true rfl) (Nat.le_of_ble_eq_true rfl) (decide_eq_true h0) (Nat.le_of_ble_eq_true rfl)) ?_
  exact mThen_eq fun v w9 => mX_mask rfl
theorem b_13_25 {d : Nat} {w : MW} : mX d 13 25 [mJ, mJ] [] w = some (.inl none, w) := by
  exact X_ret f_13_25 rfl rfl
/-! BeeTurnpike$Bee takeHint ()V -/
theorem f_14_0 : mFetch 14 0 = some (.aload_n 0, 1, []) := by decide +kernel
theorem f_14_1 : mFetch 14 1 = some (.aload_n 0, 1, []) := by decide +kernel
theorem f_14_2 : mFetch 14 2 = some (.getfield 39, 3, [0, 11, 0, 411]) := by decide +kernel
theorem f_14_5 : mFetch 14 5 = some (.invokevirtual 72, 3, [1, 2, 2, 0, 575, 576, 577]) := by decide +kernel
theorem f_14_8 : mFetch 14 8 = some (.astore_n 1, 1, []) := by decide +kernel
theorem f_14_9 : mFetch 14 9 = some (.aload_n 1, 1, []) := by decide +kernel
theorem f_14_10 : mFetch 14 10 = some (.dup, 1, []) := by decide +kernel
theorem f_14_11 : mFetch 14 11 = some (.getfield 119, 3, [4, 5, 1, 16]) := by decide +kernel
theorem f_14_14 : mFetch 14 14 = some (.iconst 1, 1, []) := by decide +kernel
theorem f_14_15 : mFetch 14 15 = some (.isub, 1, []) := by decide +kernel
theorem f_14_16 : mFetch 14 16 = some (.putfield 119, 3, [4, 5, 1, 16]) := by decide +kernel
theorem f_14_19 : mFetch 14 19 = some (.aload_n 1, 1, []) := by decide +kernel
theorem f_14_20 : mFetch 14 20 = some (.dup, 1, []) := by decide +kernel
theorem f_14_21 : mFetch 14 21 = some (.getfield 161, 3, [4, 8, 1, 23]) := by decide +kernel
theorem f_14_24 : mFetch 14 24 = some (.iconst 1, 1, []) := by decide +kernel
theorem f_14_25 : mFetch 14 25 = some (.iadd, 1, []) := by decide +kernel
theorem f_14_26 : mFetch 14 26 = some (.putfield 161, 3, [4, 8, 1, 23]) := by decide +kernel
theorem f_14_29 : mFetch 14 29 = some (.aload_n 0, 1, []) := by decide +kernel
theorem f_14_30 : mFetch 14 30 = some (.dup, 1, []) := by decide +kernel
theorem f_14_31 : mFetch 14 31 = some (.getfield 59, 3, [0, 12, 0, 414]) := by decide +kernel
theorem f_14_34 : mFetch 14 34 = some (.iconst 1, 1, []) := by decide +kernel
theorem f_14_35 : mFetch 14 35 = some (.iadd, 1, []) := by decide +kernel
theorem f_14_36 : mFetch 14 36 = some (.putfield 59, 3, [0, 12, 0, 414]) := by decide +kernel
theorem f_14_39 : mFetch 14 39 = some (.aload_n 0, 1, []) := by decide +kernel
theorem f_14_40 : mFetch 14 40 = some (.iconst 2, 1, []) := by decide +kernel
theorem f_14_41 : mFetch 14 41 = some (.invokevirtual 164, 3, [16, 2, 2, 0, 710, 712, 13]) := by decide +kernel
theorem f_14_44 : mFetch 14 44 = some (.return_, 1, []) := by decide +kernel
theorem b_14_0 {d : Nat} {a0 : Nat} {w : MW} (h0 : mTg w a0 = 0) : mX (d + 1) 14 0 [.ref a0, mJ] [] w = mThen (mK d 1 [.ref a0, .int (mI w a0 11)] w) (fun v w9 => mX (d + 1) 14 8 [.ref a0, mJ] (v.toList ++ []) w9) := by
  refine Eq.trans (X_st f_14_0 rfl rfl) ?_
  refine Eq.trans (X_st f_14_1 rfl rfl) ?_
  refine Eq.trans (X_getI f_14_2 h0 rfl) ?_
  refine Eq.trans (X_call f_14_5 (by decide) rfl rfl rfl rfl rfl rfl (Nat.le_of_ble_eq_true rfl) (Nat.le_of_ble_eq_true rfl) (decide_eq_true h0) (Nat.le_of_ble_eq_true rfl)) ?_
  exact mThen_eq fun v w9 => mX_mask rfl
theorem e_14 {d : Nat} {a0 : Nat} {w : MW} : mK d 14 [.ref a0] w = mX d 14 0 [.ref a0, mJ] [] w := rfl
theorem b_14_8 {d : Nat} {a0 : Nat} {b0 : Nat} {w : MW} (h0 : mTg w b0 = 4) (h1 : mE ≤ b0) (h2 : mTg (wI w b0 5 ((mI w b0 5) - (nI 1))) b0 = 4) (h3 : mTg (wI (wI w b0 5 ((mI w b0 5) - (nI 1))) b0 8 ((mI (wI w b0 5 ((mI w b0 5) - (nI 1))) b0 8) + (nI 1))) a0 = 0) (h4 : mE ≤ a0) : mX d 14 8 [.ref a0, mJ] [.ref b0] w = mX d 14 39 [.ref a0, mJ] [] (wI (wI (wI w b0 5 ((mI w b0 5) - (nI 1))) b0 8 ((mI (wI w b0 5 ((mI w b0 5) - (nI 1))) b0 8) + (nI 1))) a0 12 ((mI (wI (wI w b0 5 ((mI w b0 5) - (nI 1))) b0 8 ((mI (wI w b0 5 ((mI w b0 5) - (nI 1))) b0 8) + (nI 1))) a0 12) + (nI 1))) := by
  refine Eq.trans (X_astore_n (L' := [.ref a0, .ref b0]) f_14_8 (Nat.le_of_ble_eq_true rfl) rfl) ?_
  refine Eq.trans (X_st f_14_9 rfl rfl) ?_
  refine Eq.trans (X_dup f_14_10 rfl) ?_
  refine Eq.trans (X_getI f_14_11 h0 rfl) ?_
  refine Eq.trans (X_iconst f_14_14 kc_i_1) ?_
  refine Eq.trans (X_st f_14_15 rfl rfl) ?_
  refine Eq.trans (X_putI f_14_16 h0 h1 rfl rfl) ?_
  refine Eq.trans (X_st f_14_19 rfl rfl) ?_
  refine Eq.trans (X_dup f_14_20 rfl) ?_
  refine Eq.trans (X_getI f_14_21 h2 rfl) ?_
  refine Eq.trans (X_iconst f_14_24 kc_i_1) ?_
  refine Eq.trans (X_st f_14_25 rfl rfl) ?_
  refine Eq.trans (X_putI f_14_26 h2 h1 rfl rfl) ?_
  refine Eq.trans (X_st f_14_29 rfl rfl) ?_
  refine Eq.trans (X_dup f_14_30 rfl) ?_
  refine Eq.trans (X_getI f_14_31 h3 rfl) ?_
  refine Eq.trans (X_iconst f_14_34 kc_i_1) ?_
  refine Eq.trans (X_st f_14_35 rfl rfl) ?_
  refine Eq.trans (X_putI f_14_36 h3 h4 rfl rfl) ?_
  exact mX_mask rfl
theorem b_14_39 {d : Nat} {a0 : Nat} {w : MW} (h0 : mTg w a0 = 0) : mX (d + 1) 14 39 [.ref a0, mJ] [] w = mThen (mK d 16 [.ref a0, .int (nI 2)] w) (fun v w9 => mX (d + 1) 14 44 [mJ, mJ] (v.toList ++ []) w9) := by
  refine Eq.trans (X_st f_14_39 rfl rfl) ?_
  refine Eq.trans (X_iconst f_14_40 kc_i_2) ?_
  refine Eq.trans (X_call f_14_41 (by decide) rfl rfl rfl rfl rfl rfl (Nat.le_of_ble_eq_true rfl) (Nat.le_of_ble_eq_true rfl) (decide_eq_true h0) (Nat.le_of_ble_eq_true rfl)) ?_
  exact mThen_eq fun v w9 => mX_mask rfl
theorem b_14_44 {d : Nat} {w : MW} : mX d 14 44 [mJ, mJ] [] w = some (.inl none, w) := by
  exact X_ret f_14_44 rfl rfl
/-! BeeTurnpike$Bee usePass ()V -/
theorem f_15_0 : mFetch 15 0 = some (.aload_n 0, 1, []) := by decide +kernel
theorem f_15_1 : mFetch 15 1 = some (.aload_n 0, 1, []) := by decide +kernel
theorem f_15_2 : mFetch 15 2 = some (.getfield 39, 3, [0, 11, 0, 411]) := by decide +kernel
theorem f_15_5 : mFetch 15 5 = some (.invokevirtual 72, 3, [1, 2, 2, 0, 575, 576, 577]) := by decide +kernel
theorem f_15_8 : mFetch 15 8 = some (.dup, 1, []) := by decide +kernel
theorem f_15_9 : mFetch 15 9 = some (.getfield 149, 3, [4, 7, 1, 22]) := by decide +kernel
theorem f_15_12 : mFetch 15 12 = some (.iconst 1, 1, []) := by decide +kernel
theorem f_15_13 : mFetch 15 13 = some (.isub, 1, []) := by decide +kernel
theorem f_15_14 : mFetch 15 14 = some (.putfield 149, 3, [4, 7, 1, 22]) := by decide +kernel
theorem f_15_17 : mFetch 15 17 = some (.aload_n 0, 1, []) := by decide +kernel
theorem f_15_18 : mFetch 15 18 = some (.iconst 3, 1, []) := by decide +kernel
theorem f_15_19 : mFetch 15 19 = some (.invokevirtual 164, 3, [16, 2, 2, 0, 710, 712, 13]) := by decide +kernel
theorem f_15_22 : mFetch 15 22 = some (.return_, 1, []) := by decide +kernel
theorem b_15_0 {d : Nat} {a0 : Nat} {w : MW} (h0 : mTg w a0 = 0) : mX (d + 1) 15 0 [.ref a0] [] w = mThen (mK d 1 [.ref a0, .int (mI w a0 11)] w) (fun v w9 => mX (d + 1) 15 8 [.ref a0] (v.toList ++ []) w9) := by
  refine Eq.trans (X_st f_15_0 rfl rfl) ?_
  refine Eq.trans (X_st f_15_1 rfl rfl) ?_
  refine Eq.trans (X_getI f_15_2 h0 rfl) ?_
  refine Eq.trans (X_call f_15_5 (by decide) rfl rfl rfl rfl rfl rfl (Nat.le_of_ble_eq_true rfl) (Nat.le_of_ble_eq_true rfl) (decide_eq_true h0) (Nat.le_of_ble_eq_true rfl)) ?_
  exact mThen_eq fun v w9 => mX_mask rfl
theorem e_15 {d : Nat} {a0 : Nat} {w : MW} : mK d 15 [.ref a0] w = mX d 15 0 [.ref a0] [] w := rfl
theorem b_15_8 {d : Nat} {a0 : Nat} {b0 : Nat} {w : MW} (h0 : mTg w b0 = 4) (h1 : mE ≤ b0) (h2 : mTg (wI w b0 7 ((mI w b0 7) - (nI 1))) a0 = 0) : mX (d + 1) 15 8 [.ref a0] [.ref b0] w = mThen (mK d 16 [.ref a0, .int (nI 3)] (wI w b0 7 ((mI w b0 7) - (nI 1)))) (fun v w9 => mX (d + 1) 15 22 [mJ] (v.toList ++ []) w9) := by
  refine Eq.trans (X_dup f_15_8 rfl) ?_
  refine Eq.trans (X_getI f_15_9 h0 rfl) ?_
  refine Eq.trans (X_iconst f_15_12 kc_i_1) ?_
  refine Eq.trans (X_st f_15_13 rfl rfl) ?_
  refine Eq.trans (X_putI f_15_14 h0 h1 rfl rfl) ?_
  refine Eq.trans (X_st f_15_17 rfl rfl) ?_
  refine Eq.trans (X_iconst f_15_18 kc_i_3) ?_
  refine Eq.trans (X_call f_15_19 (by decide) rfl rfl rfl rfl rfl rfl (Nat.le_of_ble_eq_true rfl) (Nat.le_of_ble_eq_true rfl) (decide_eq_true h2) (Nat.le_of_ble_eq_true rfl)) ?_
  exact mThen_eq fun v w9 => mX_mask rfl
theorem b_15_22 {d : Nat} {w : MW} : mX d 15 22 [mJ] [] w = some (.inl none, w) := by
  exact X_ret f_15_22 rfl rfl
/-! BeeTurnpike$Bee add (I)V -/
theorem f_16_0 : mFetch 16 0 = some (.aload_n 0, 1, []) := by decide +kernel
theorem f_16_1 : mFetch 16 1 = some (.getfield 29, 3, [0, 4, 0, 399]) := by decide +kernel
theorem f_16_4 : mFetch 16 4 = some (.iload_n 1, 1, []) := by decide +kernel
theorem f_16_5 : mFetch 16 5 = some (.aload_n 0, 1, []) := by decide +kernel
theorem f_16_6 : mFetch 16 6 = some (.getfield 29, 3, [0, 4, 0, 399]) := by decide +kernel
theorem f_16_9 : mFetch 16 9 = some (.iload_n 1, 1, []) := by decide +kernel
theorem f_16_10 : mFetch 16 10 = some (.invokestatic 108, 3, [123, 2, 1, 0, 14, 559]) := by decide +kernel
theorem f_16_13 : mFetch 16 13 = some (.iconst 1, 1, []) := by decide +kernel
theorem f_16_14 : mFetch 16 14 = some (.iadd, 1, []) := by decide +kernel
theorem f_16_15 : mFetch 16 15 = some (.invokestatic 168, 3, [124, 3, 1, 0, 24, 689]) := by decide +kernel
theorem f_16_18 : mFetch 16 18 = some (.return_, 1, []) := by decide +kernel
theorem b_16_0 {d : Nat} {a0 : Nat} {x1 : Int32} {w : MW} (h0 : mTg w a0 = 0) (h1 : mR w a0 4 = some (gR w a0 4)) : mX (d + 1) 16 0 [.ref a0, .int x1] [] w = mThen (mK d 123 [.ref (gR w a0 4), .int x1] w) (fun v w9 => mX (d + 1) 16 13 [mJ, mJ] (v.toList ++ [.int x1, .ref (gR w a0 4)]) w9) := by
  refine Eq.trans (X_st f_16_0 rfl rfl) ?_
  refine Eq.trans (X_getR f_16_1 h0 rfl h1) ?_
  refine Eq.trans (X_st f_16_4 rfl rfl) ?_
  refine Eq.trans (X_st f_16_5 rfl rfl) ?_
  refine Eq.trans (X_getR f_16_6 h0 rfl h1) ?_
  refine Eq.trans (X_st f_16_9 rfl rfl) ?_
  refine Eq.trans (X_call f_16_10 (by decide) rfl rfl rfl rfl rfl rfl (Nat.le_of_ble_eq_true rfl) (Nat.le_of_ble_eq_true rfl) rfl (Nat.le_of_ble_eq_true rfl)) ?_
  exact mThen_eq fun v w9 => mX_mask rfl
theorem e_16 {d : Nat} {a0 : Nat} {x1 : Int32} {w : MW} : mK d 16 [.ref a0, .int x1] w = mX d 16 0 [.ref a0, .int x1] [] w := rfl
theorem b_16_13 {d : Nat} {y0 : Int32} {y1 : Int32} {b2 : Nat} {w : MW} : mX (d + 1) 16 13 [mJ, mJ] [.int y0, .int y1, .ref b2] w = mThen (mK d 124 [.ref b2, .int y1, .int (y0 + (nI 1))] w) (fun v w9 => mX (d + 1) 16 18 [mJ, mJ] (v.toList ++ []) w9) := by
  refine Eq.trans (X_iconst f_16_13 kc_i_1) ?_
  refine Eq.trans (X_st f_16_14 rfl rfl) ?_
  refine Eq.trans (X_call f_16_15 (by decide) rfl rfl rfl rfl rfl rfl (Nat.le_of_ble_eq_true rfl) (Nat.le_of_ble_eq_true rfl) rfl (Nat.le_of_ble_eq_true rfl)) ?_
  exact mThen_eq fun v w9 => mX_mask rfl
theorem b_16_18 {d : Nat} {w : MW} : mX d 16 18 [mJ, mJ] [] w = some (.inl none, w) := by
  exact X_ret f_16_18 rfl rfl
/-! BeeTurnpike$Bee play (I)I -/
theorem f_17_0 : mFetch 17 0 = some (.iconst 0, 1, []) := by decide +kernel
theorem f_17_1 : mFetch 17 1 = some (.istore_n 2, 1, []) := by decide +kernel
theorem f_17_2 : mFetch 17 2 = some (.iload_n 2, 1, []) := by decide +kernel
theorem f_17_3 : mFetch 17 3 = some (.iload_n 1, 1, []) := by decide +kernel
theorem f_17_4 : mFetch 17 4 = some (.if_icmp .ge 31, 3, [35]) := by decide +kernel
theorem f_17_7 : mFetch 17 7 = some (.aload_n 0, 1, []) := by decide +kernel
theorem f_17_8 : mFetch 17 8 = some (.invokevirtual 101, 3, [4, 1, 2, 0, 557, 550, 551]) := by decide +kernel
theorem f_17_11 : mFetch 17 11 = some (.ifCond .ne 24, 3, [35]) := by decide +kernel
theorem f_17_14 : mFetch 17 14 = some (.aload_n 0, 1, []) := by decide +kernel
theorem f_17_15 : mFetch 17 15 = some (.invokevirtual 172, 3, [18, 1, 2, 0, 666, 668, 9]) := by decide +kernel
theorem f_17_18 : mFetch 17 18 = some (.ifCond .ne 7, 3, [25]) := by decide +kernel
theorem f_17_21 : mFetch 17 21 = some (.aload_n 0, 1, []) := by decide +kernel
theorem f_17_22 : mFetch 17 22 = some (.invokevirtual 175, 3, [20, 1, 2, 0, 719, 721, 14]) := by decide +kernel
theorem f_17_25 : mFetch 17 25 = some (.aload_n 0, 1, []) := by decide +kernel
theorem f_17_26 : mFetch 17 26 = some (.invokevirtual 158, 3, [25, 1, 2, 0, 741, 742, 743]) := by decide +kernel
theorem f_17_29 : mFetch 17 29 = some (.iinc 2 1, 3, []) := by decide +kernel
theorem f_17_32 : mFetch 17 32 = some (.goto (-30), 3, [2]) := by decide +kernel
theorem f_17_35 : mFetch 17 35 = some (.iload_n 2, 1, []) := by decide +kernel
theorem f_17_36 : mFetch 17 36 = some (.ireturn, 1, [0]) := by decide +kernel
theorem b_17_0 {d : Nat} {a0 : Nat} {x1 : Int32} {w : MW} : mX d 17 0 [.ref a0, .int x1, mJ] [] w = mX d 17 2 [.ref a0, .int x1, .int (nI 0)] [] w := by
  refine Eq.trans (X_iconst f_17_0 kc_i_0) ?_
  refine Eq.trans (X_istore_n (L' := [.ref a0, .int x1, .int (nI 0)]) f_17_1 (Nat.le_of_ble_eq_true rfl) rfl) ?_
  exact mX_mask rfl
theorem e_17 {d : Nat} {a0 : Nat} {x1 : Int32} {w : MW} : mK d 17 [.ref a0, .int x1] w = mX d 17 0 [.ref a0, .int x1, mJ] [] w := rfl
theorem b_17_2 {d : Nat} {a0 : Nat} {x1 : Int32} {x2 : Int32} {w : MW} : mX d 17 2 [.ref a0, .int x1, .int x2] [] w = (if x1 ≤ x2 then mX d 17 35 [mJ, mJ, .int x2] [] w else mX d 17 7 [.ref a0, .int x1, .int x2] [] w) := by
  refine Eq.trans (X_st f_17_2 rfl rfl) ?_
  refine Eq.trans (X_st f_17_3 rfl rfl) ?_
  refine Eq.trans (X_br f_17_4 rfl rfl) ?_
  exact mIte_eq (mX_mask rfl) (mX_mask rfl)
theorem b_17_7 {d : Nat} {a0 : Nat} {x1 : Int32} {x2 : Int32} {w : MW} (h0 : mTg w a0 = 0) : mX (d + 1) 17 7 [.ref a0, .int x1, .int x2] [] w = mThen (mK d 4 [.ref a0] w) (fun v w9 => mX (d + 1) 17 11 [.ref a0, .int x1, .int x2] (v.toList ++ []) w9) := by
  refine Eq.trans (X_st f_17_7 rfl rfl) ?_
  refine Eq.trans (X_call f_17_8 (by decide) rfl rfl rfl rfl rfl rfl (Nat.le_of_ble_eq_true rfl) (Nat.le_of_ble_eq_true rfl) (decide_eq_true h0) (Nat.le_of_ble_eq_true rfl)) ?_
  exact mThen_eq fun v w9 => mX_mask rfl
theorem b_17_11 {d : Nat} {a0 : Nat} {x1 : Int32} {x2 : Int32} {y0 : Int32} {w : MW} : mX d 17 11 [.ref a0, .int x1, .int x2] [.int y0] w = (if ¬ y0 = nI 0 then mX d 17 35 [mJ, mJ, .int x2] [] w else mX d 17 14 [.ref a0, .int x1, .int x2] [] w) := by
  refine Eq.trans (X_br f_17_11 rfl rfl) ?_
  exact mIte_eq (mX_mask rfl) (mX_mask rfl)
theorem b_17_14 {d : Nat} {a0 : Nat} {x1 : Int32} {x2 : Int32} {w : MW} (h0 : mTg w a0 = 0) : mX (d + 1) 17 14 [.ref a0, .int x1, .int x2] [] w = mThen (mK d 18 [.ref a0] w) (fun v w9 => mX (d + 1) 17 18 [.ref a0, .int x1, .int x2] (v.toList ++ []) w9) := by
  refine Eq.trans (X_st f_17_14 rfl rfl) ?_
  refine Eq.trans (X_call f_17_15 (by decide) rfl rfl rfl rfl rfl rfl (Nat.le_of_ble_eq_true rfl) (Nat.le_of_ble_eq_true rfl) (decide_eq_true h0) (Nat.le_of_ble_eq_true rfl)) ?_
  exact mThen_eq fun v w9 => mX_mask rfl
theorem b_17_18 {d : Nat} {a0 : Nat} {x1 : Int32} {x2 : Int32} {y0 : Int32} {w : MW} : mX d 17 18 [.ref a0, .int x1, .int x2] [.int y0] w = (if ¬ y0 = nI 0 then mX d 17 25 [.ref a0, .int x1, .int x2] [] w else mX d 17 21 [.ref a0, .int x1, .int x2] [] w) := by
  refine Eq.trans (X_br f_17_18 rfl rfl) ?_
  exact mIte_eq (mX_mask rfl) (mX_mask rfl)
theorem b_17_21 {d : Nat} {a0 : Nat} {x1 : Int32} {x2 : Int32} {w : MW} (h0 : mTg w a0 = 0) : mX (d + 1) 17 21 [.ref a0, .int x1, .int x2] [] w = mThen (mK d 20 [.ref a0] w) (fun v w9 => mX (d + 1) 17 25 [.ref a0, .int x1, .int x2] (v.toList ++ []) w9) := by
  refine Eq.trans (X_st f_17_21 rfl rfl) ?_
  refine Eq.trans (X_call f_17_22 (by decide) rfl rfl rfl rfl rfl rfl (Nat.le_of_ble_eq_true rfl) (Nat.le_of_ble_eq_true rfl) (decide_eq_true h0) (Nat.le_of_ble_eq_true rfl)) ?_
  exact mThen_eq fun v w9 => mX_mask rfl
theorem b_17_25 {d : Nat} {a0 : Nat} {x1 : Int32} {x2 : Int32} {w : MW} (h0 : mTg w a0 = 0) : mX (d + 1) 17 25 [.ref a0, .int x1, .int x2] [] w = mThen (mK d 25 [.ref a0] w) (fun v w9 => mX (d + 1) 17 29 [.ref a0, .int x1, .int x2] (v.toList ++ []) w9) := by
  refine Eq.trans (X_st f_17_25 rfl rfl) ?_
  refine Eq.trans (X_call f_17_26 (by decide) rfl rfl rfl rfl rfl rfl (Nat.le_of_ble_eq_true rfl) (Nat.le_of_ble_eq_true rfl) (decide_eq_true h0) (Nat.le_of_ble_eq_true rfl)) ?_
  exact mThen_eq fun v w9 => mX_mask rfl
theorem b_17_29 {d : Nat} {a0 : Nat} {x1 : Int32} {x2 : Int32} {w : MW} : mX d 17 29 [.ref a0, .int x1, .int x2] [] w = mX d 17 2 [.ref a0, .int x1, .int (x2 + (nI 1))] [] w := by
  refine Eq.trans (X_iinc f_17_29 kc_i_1 rfl rfl) ?_
  refine Eq.trans (X_st f_17_32 rfl rfl) ?_
  exact mX_mask rfl
theorem b_17_35 {d : Nat} {x2 : Int32} {w : MW} : mX d 17 35 [mJ, mJ, .int x2] [] w = some (.inl (some (.int x2)), w) := by
  refine Eq.trans (X_st f_17_35 rfl rfl) ?_
  exact X_ireturn f_17_36 rfl
/-! BeeTurnpike$Bee passesOn ()Z -/
theorem f_18_0 : mFetch 18 0 = some (.iconst 0, 1, []) := by decide +kernel
theorem f_18_1 : mFetch 18 1 = some (.istore_n 1, 1, []) := by decide +kernel
theorem f_18_2 : mFetch 18 2 = some (.iload_n 1, 1, []) := by decide +kernel
theorem f_18_3 : mFetch 18 3 = some (.aload_n 0, 1, []) := by decide +kernel
theorem f_18_4 : mFetch 18 4 = some (.getfield 43, 3, [0, 0, 0, 394]) := by decide +kernel
theorem f_18_7 : mFetch 18 7 = some (.iconst 5, 1, []) := by decide +kernel
theorem f_18_8 : mFetch 18 8 = some (.invokevirtual 84, 3, [85, 2, 2, 8, 574, 562, 563]) := by decide +kernel
theorem f_18_11 : mFetch 18 11 = some (.if_icmp .ge 79, 3, [90]) := by decide +kernel
theorem f_18_14 : mFetch 18 14 = some (.aload_n 0, 1, []) := by decide +kernel
theorem f_18_15 : mFetch 18 15 = some (.iload_n 1, 1, []) := by decide +kernel
theorem f_18_16 : mFetch 18 16 = some (.bipush 15, 2, []) := by decide +kernel
theorem f_18_18 : mFetch 18 18 = some (.invokevirtual 178, 3, [19, 3, 2, 0, 670, 672, 10]) := by decide +kernel
theorem f_18_21 : mFetch 18 21 = some (.ifCond .eq 27, 3, [48]) := by decide +kernel
theorem f_18_24 : mFetch 18 24 = some (.aload_n 0, 1, []) := by decide +kernel
theorem f_18_25 : mFetch 18 25 = some (.iconst 1, 1, []) := by decide +kernel
theorem f_18_26 : mFetch 18 26 = some (.invokevirtual 181, 3, [12, 2, 2, 0, 674, 675, 676]) := by decide +kernel
theorem f_18_29 : mFetch 18 29 = some (.ifCond .eq 19, 3, [48]) := by decide +kernel
theorem f_18_32 : mFetch 18 32 = some (.aload_n 0, 1, []) := by decide +kernel
theorem f_18_33 : mFetch 18 33 = some (.getfield 12, 3, [0, 1, 0, 396]) := by decide +kernel
theorem f_18_36 : mFetch 18 36 = some (.aload_n 0, 1, []) := by decide +kernel
theorem f_18_37 : mFetch 18 37 = some (.iload_n 1, 1, []) := by decide +kernel
theorem f_18_38 : mFetch 18 38 = some (.invokevirtual 185, 3, [48, 3, 2, 3, 678, 679, 680]) := by decide +kernel
theorem f_18_41 : mFetch 18 41 = some (.ifCond .eq 7, 3, [48]) := by decide +kernel
theorem f_18_44 : mFetch 18 44 = some (.aload_n 0, 1, []) := by decide +kernel
theorem f_18_45 : mFetch 18 45 = some (.invokevirtual 152, 3, [14, 1, 2, 0, 706, 707, 708]) := by decide +kernel
theorem f_18_48 : mFetch 18 48 = some (.aload_n 0, 1, []) := by decide +kernel
theorem f_18_49 : mFetch 18 49 = some (.iload_n 1, 1, []) := by decide +kernel
theorem f_18_50 : mFetch 18 50 = some (.bipush 16, 2, []) := by decide +kernel
theorem f_18_52 : mFetch 18 52 = some (.invokevirtual 178, 3, [19, 3, 2, 0, 670, 672, 10]) := by decide +kernel
theorem f_18_55 : mFetch 18 55 = some (.ifCond .eq 29, 3, [84]) := by decide +kernel
theorem f_18_58 : mFetch 18 58 = some (.aload_n 0, 1, []) := by decide +kernel
theorem f_18_59 : mFetch 18 59 = some (.iconst 2, 1, []) := by decide +kernel
theorem f_18_60 : mFetch 18 60 = some (.invokevirtual 181, 3, [12, 2, 2, 0, 674, 675, 676]) := by decide +kernel
theorem f_18_63 : mFetch 18 63 = some (.ifCond .eq 21, 3, [84]) := by decide +kernel
theorem f_18_66 : mFetch 18 66 = some (.aload_n 0, 1, []) := by decide +kernel
theorem f_18_67 : mFetch 18 67 = some (.getfield 12, 3, [0, 1, 0, 396]) := by decide +kernel
theorem f_18_70 : mFetch 18 70 = some (.aload_n 0, 1, []) := by decide +kernel
theorem f_18_71 : mFetch 18 71 = some (.iload_n 1, 1, []) := by decide +kernel
theorem f_18_72 : mFetch 18 72 = some (.invokevirtual 185, 3, [48, 3, 2, 3, 678, 679, 680]) := by decide +kernel
theorem f_18_75 : mFetch 18 75 = some (.ifCond .eq 9, 3, [84]) := by decide +kernel
theorem f_18_78 : mFetch 18 78 = some (.aload_n 0, 1, []) := by decide +kernel
theorem f_18_79 : mFetch 18 79 = some (.invokevirtual 155, 3, [15, 1, 2, 0, 715, 716, 717]) := by decide +kernel
theorem f_18_82 : mFetch 18 82 = some (.iconst 1, 1, []) := by decide +kernel
theorem f_18_83 : mFetch 18 83 = some (.ireturn, 1, [2]) := by decide +kernel
theorem f_18_84 : mFetch 18 84 = some (.iinc 1 1, 3, []) := by decide +kernel
theorem f_18_87 : mFetch 18 87 = some (.goto (-85), 3, [2]) := by decide +kernel
theorem f_18_90 : mFetch 18 90 = some (.iconst 0, 1, []) := by decide +kernel
theorem f_18_91 : mFetch 18 91 = some (.ireturn, 1, [2]) := by decide +kernel
theorem b_18_0 {d : Nat} {a0 : Nat} {w : MW} : mX d 18 0 [.ref a0, mJ] [] w = mX d 18 2 [.ref a0, .int (nI 0)] [] w := by
  refine Eq.trans (X_iconst f_18_0 kc_i_0) ?_
  refine Eq.trans (X_istore_n (L' := [.ref a0, .int (nI 0)]) f_18_1 (Nat.le_of_ble_eq_true rfl) rfl) ?_
  exact mX_mask rfl
theorem e_18 {d : Nat} {a0 : Nat} {w : MW} : mK d 18 [.ref a0] w = mX d 18 0 [.ref a0, mJ] [] w := rfl
theorem b_18_2 {d : Nat} {a0 : Nat} {x1 : Int32} {w : MW} (h0 : mTg w a0 = 0) (h1 : mR w a0 0 = some (gR w a0 0)) (h2 : mTg w (gR w a0 0) = 8) : mX (d + 1) 18 2 [.ref a0, .int x1] [] w = mThen (mK d 85 [.ref (gR w a0 0), .int (nI 5)] w) (fun v w9 => mX (d + 1) 18 11 [.ref a0, .int x1] (v.toList ++ [.int x1]) w9) := by
  refine Eq.trans (X_st f_18_2 rfl rfl) ?_
  refine Eq.trans (X_st f_18_3 rfl rfl) ?_
  refine Eq.trans (X_getR f_18_4 h0 rfl h1) ?_
  refine Eq.trans (X_iconst f_18_7 kc_i_5) ?_
  refine Eq.trans (X_call f_18_8 (by decide) rfl rfl rfl rfl rfl rfl (Nat.le_of_ble_eq_true rfl) (Nat.le_of_ble_eq_true rfl) (decide_eq_true h2) (Nat.le_of_ble_eq_true rfl)) ?_
  exact mThen_eq fun v w9 => mX_mask rfl
theorem b_18_11 {d : Nat} {a0 : Nat} {x1 : Int32} {y0 : Int32} {y1 : Int32} {w : MW} : mX d 18 11 [.ref a0, .int x1] [.int y0, .int y1] w = (if y0 ≤ y1 then mX d 18 90 [mJ, mJ] [] w else mX d 18 14 [.ref a0, .int x1] [] w) := by
  refine Eq.trans (X_br f_18_11 rfl rfl) ?_
  exact mIte_eq (mX_mask rfl) (mX_mask rfl)
theorem b_18_14 {d : Nat} {a0 : Nat} {x1 : Int32} {w : MW} (h0 : mTg w a0 = 0) : mX (d + 1) 18 14 [.ref a0, .int x1] [] w = mThen (mK d 19 [.ref a0, .int x1, .int (nI 15)] w) (fun v w9 => mX (d + 1) 18 21 [.ref a0, .int x1] (v.toList ++ []) w9) := by
  refine Eq.trans (X_st f_18_14 rfl rfl) ?_
  refine Eq.trans (X_st f_18_15 rfl rfl) ?_
  refine Eq.trans (X_bipush f_18_16 kc_b_15) ?_
  refine Eq.trans (X_call f_18_18 (by decide) rfl rfl rfl rfl rfl rfl (Nat.le_of_ble_eq_true rfl) (Nat.le_of_ble_eq_true rfl) (decide_eq_true h0) (Nat.le_of_ble_eq_true rfl)) ?_
  exact mThen_eq fun v w9 => mX_mask rfl
theorem b_18_21 {d : Nat} {a0 : Nat} {x1 : Int32} {y0 : Int32} {w : MW} : mX d 18 21 [.ref a0, .int x1] [.int y0] w = (if y0 = nI 0 then mX d 18 48 [.ref a0, .int x1] [] w else mX d 18 24 [.ref a0, .int x1] [] w) := by
  refine Eq.trans (X_br f_18_21 rfl rfl) ?_
  exact mIte_eq (mX_mask rfl) (mX_mask rfl)
theorem b_18_24 {d : Nat} {a0 : Nat} {x1 : Int32} {w : MW} (h0 : mTg w a0 = 0) : mX (d + 1) 18 24 [.ref a0, .int x1] [] w = mThen (mK d 12 [.ref a0, .int (nI 1)] w) (fun v w9 => mX (d + 1) 18 29 [.ref a0, .int x1] (v.toList ++ []) w9) := by
  refine Eq.trans (X_st f_18_24 rfl rfl) ?_
  refine Eq.trans (X_iconst f_18_25 kc_i_1) ?_
  refine Eq.trans (X_call f_18_26 (by decide) rfl rfl rfl rfl rfl rfl (Nat.le_of_ble_eq_true rfl) (Nat.le_of_ble_eq_true rfl) (decide_eq_true h0) (Nat.le_of_ble_eq_true rfl)) ?_
  exact mThen_eq fun v w9 => mX_mask rfl
theorem b_18_29 {d : Nat} {a0 : Nat} {x1 : Int32} {y0 : Int32} {w : MW} : mX d 18 29 [.ref a0, .int x1] [.int y0] w = (if y0 = nI 0 then mX d 18 48 [.ref a0, .int x1] [] w else mX d 18 32 [.ref a0, .int x1] [] w) := by
  refine Eq.trans (X_br f_18_29 rfl rfl) ?_
  exact mIte_eq (mX_mask rfl) (mX_mask rfl)
theorem b_18_32 {d : Nat} {a0 : Nat} {x1 : Int32} {w : MW} (h0 : mTg w a0 = 0) (h1 : mR w a0 1 = some (gR w a0 1)) (h2 : mTg w (gR w a0 1) = 3) : mX (d + 1) 18 32 [.ref a0, .int x1] [] w = mThen (mK d 48 [.ref (gR w a0 1), .ref a0, .int x1] w) (fun v w9 => mX (d + 1) 18 41 [.ref a0, .int x1] (v.toList ++ []) w9) := by
  refine Eq.trans (X_st f_18_32 rfl rfl) ?_
  refine Eq.trans (X_getR f_18_33 h0 rfl h1) ?_
  refine Eq.trans (X_st f_18_36 rfl rfl) ?_
  refine Eq.trans (X_st f_18_37 rfl rfl) ?_
  refine Eq.trans (X_call f_18_38 (by decide) rfl rfl rfl rfl rfl rfl (Nat.le_of_ble_eq_true rfl) (Nat.le_of_ble_eq_true rfl) (decide_eq_true h2) (Nat.le_of_ble_eq_true rfl)) ?_
  exact mThen_eq fun v w9 => mX_mask rfl
theorem b_18_41 {d : Nat} {a0 : Nat} {x1 : Int32} {y0 : Int32} {w : MW} : mX d 18 41 [.ref a0, .int x1] [.int y0] w = (if y0 = nI 0 then mX d 18 48 [.ref a0, .int x1] [] w else mX d 18 44 [.ref a0, .int x1] [] w) := by
  refine Eq.trans (X_br f_18_41 rfl rfl) ?_
  exact mIte_eq (mX_mask rfl) (mX_mask rfl)
theorem b_18_44 {d : Nat} {a0 : Nat} {x1 : Int32} {w : MW} (h0 : mTg w a0 = 0) : mX (d + 1) 18 44 [.ref a0, .int x1] [] w = mThen (mK d 14 [.ref a0] w) (fun v w9 => mX (d + 1) 18 48 [.ref a0, .int x1] (v.toList ++ []) w9) := by
  refine Eq.trans (X_st f_18_44 rfl rfl) ?_
  refine Eq.trans (X_call f_18_45 (by decide) rfl rfl rfl rfl rfl rfl (Nat.le_of_ble_eq_true rfl) (Nat.le_of_ble_eq_true rfl) (decide_eq_true h0) (Nat.le_of_ble_eq_true rfl)) ?_
  exact mThen_eq fun v w9 => mX_mask rfl
theorem b_18_48 {d : Nat} {a0 : Nat} {x1 : Int32} {w : MW} (h0 : mTg w a0 = 0) : mX (d + 1) 18 48 [.ref a0, .int x1] [] w = mThen (mK d 19 [.ref a0, .int x1, .int (nI 16)] w) (fun v w9 => mX (d + 1) 18 55 [.ref a0, .int x1] (v.toList ++ []) w9) := by
  refine Eq.trans (X_st f_18_48 rfl rfl) ?_
  refine Eq.trans (X_st f_18_49 rfl rfl) ?_
  refine Eq.trans (X_bipush f_18_50 kc_b_16) ?_
  refine Eq.trans (X_call f_18_52 (by decide) rfl rfl rfl rfl rfl rfl (Nat.le_of_ble_eq_true rfl) (Nat.le_of_ble_eq_true rfl) (decide_eq_true h0) (Nat.le_of_ble_eq_true rfl)) ?_
  exact mThen_eq fun v w9 => mX_mask rfl
theorem b_18_55 {d : Nat} {a0 : Nat} {x1 : Int32} {y0 : Int32} {w : MW} : mX d 18 55 [.ref a0, .int x1] [.int y0] w = (if y0 = nI 0 then mX d 18 84 [.ref a0, .int x1] [] w else mX d 18 58 [.ref a0, .int x1] [] w) := by
  refine Eq.trans (X_br f_18_55 rfl rfl) ?_
  exact mIte_eq (mX_mask rfl) (mX_mask rfl)
theorem b_18_58 {d : Nat} {a0 : Nat} {x1 : Int32} {w : MW} (h0 : mTg w a0 = 0) : mX (d + 1) 18 58 [.ref a0, .int x1] [] w = mThen (mK d 12 [.ref a0, .int (nI 2)] w) (fun v w9 => mX (d + 1) 18 63 [.ref a0, .int x1] (v.toList ++ []) w9) := by
  refine Eq.trans (X_st f_18_58 rfl rfl) ?_
  refine Eq.trans (X_iconst f_18_59 kc_i_2) ?_
  refine Eq.trans (X_call f_18_60 (by decide) rfl rfl rfl rfl rfl rfl (Nat.le_of_ble_eq_true rfl) (Nat.le_of_ble_eq_true rfl) (decide_eq_true h0) (Nat.le_of_ble_eq_true rfl)) ?_
  exact mThen_eq fun v w9 => mX_mask rfl
theorem b_18_63 {d : Nat} {a0 : Nat} {x1 : Int32} {y0 : Int32} {w : MW} : mX d 18 63 [.ref a0, .int x1] [.int y0] w = (if y0 = nI 0 then mX d 18 84 [.ref a0, .int x1] [] w else mX d 18 66 [.ref a0, .int x1] [] w) := by
  refine Eq.trans (X_br f_18_63 rfl rfl) ?_
  exact mIte_eq (mX_mask rfl) (mX_mask rfl)
theorem b_18_66 {d : Nat} {a0 : Nat} {x1 : Int32} {w : MW} (h0 : mTg w a0 = 0) (h1 : mR w a0 1 = some (gR w a0 1)) (h2 : mTg w (gR w a0 1) = 3) : mX (d + 1) 18 66 [.ref a0, .int x1] [] w = mThen (mK d 48 [.ref (gR w a0 1), .ref a0, .int x1] w) (fun v w9 => mX (d + 1) 18 75 [.ref a0, .int x1] (v.toList ++ []) w9) := by
  refine Eq.trans (X_st f_18_66 rfl rfl) ?_
  refine Eq.trans (X_getR f_18_67 h0 rfl h1) ?_
  refine Eq.trans (X_st f_18_70 rfl rfl) ?_
  refine Eq.trans (X_st f_18_71 rfl rfl) ?_
  refine Eq.trans (X_call f_18_72 (by decide) rfl rfl rfl rfl rfl rfl (Nat.le_of_ble_eq_true rfl) (Nat.le_of_ble_eq_true rfl) (decide_eq_true h2) (Nat.le_of_ble_eq_true rfl)) ?_
  exact mThen_eq fun v w9 => mX_mask rfl
theorem b_18_75 {d : Nat} {a0 : Nat} {x1 : Int32} {y0 : Int32} {w : MW} : mX d 18 75 [.ref a0, .int x1] [.int y0] w = (if y0 = nI 0 then mX d 18 84 [.ref a0, .int x1] [] w else mX d 18 78 [.ref a0, mJ] [] w) := by
  refine Eq.trans (X_br f_18_75 rfl rfl) ?_
  exact mIte_eq (mX_mask rfl) (mX_mask rfl)
theorem b_18_78 {d : Nat} {a0 : Nat} {w : MW} (h0 : mTg w a0 = 0) : mX (d + 1) 18 78 [.ref a0, mJ] [] w = mThen (mK d 15 [.ref a0] w) (fun v w9 => mX (d + 1) 18 82 [mJ, mJ] (v.toList ++ []) w9) := by
  refine Eq.trans (X_st f_18_78 rfl rfl) ?_
  refine Eq.trans (X_call f_18_79 (by decide) rfl rfl rfl rfl rfl rfl (Nat.le_of_ble_eq_true rfl) (Nat.le_of_ble_eq_true rfl) (decide_eq_true h0) (Nat.le_of_ble_eq_true rfl)) ?_
  exact mThen_eq fun v w9 => mX_mask rfl
theorem b_18_82 {d : Nat} {w : MW} : mX d 18 82 [mJ, mJ] [] w = some (.inl (some (.int (nI 1))), w) := by
  refine Eq.trans (X_iconst f_18_82 kc_i_1) ?_
  exact X_ireturn f_18_83 rfl
theorem b_18_84 {d : Nat} {a0 : Nat} {x1 : Int32} {w : MW} : mX d 18 84 [.ref a0, .int x1] [] w = mX d 18 2 [.ref a0, .int (x1 + (nI 1))] [] w := by
  refine Eq.trans (X_iinc f_18_84 kc_i_1 rfl rfl) ?_
  refine Eq.trans (X_st f_18_87 rfl rfl) ?_
  exact mX_mask rfl
theorem b_18_90 {d : Nat} {w : MW} : mX d 18 90 [mJ, mJ] [] w = some (.inl (some (.int (nI 0))), w) := by
  refine Eq.trans (X_iconst f_18_90 kc_i_0) ?_
  exact X_ireturn f_18_91 rfl
/-! BeeTurnpike$Bee isOrder (II)Z -/
theorem f_19_0 : mFetch 19 0 = some (.aload_n 0, 1, []) := by decide +kernel
theorem f_19_1 : mFetch 19 1 = some (.getfield 43, 3, [0, 0, 0, 394]) := by decide +kernel
theorem f_19_4 : mFetch 19 4 = some (.getfield 189, 3, [8, 15, 1, 25]) := by decide +kernel
theorem f_19_7 : mFetch 19 7 = some (.iload_n 1, 1, []) := by decide +kernel
theorem f_19_8 : mFetch 19 8 = some (.invokestatic 108, 3, [123, 2, 1, 0, 14, 559]) := by decide +kernel
theorem f_19_11 : mFetch 19 11 = some (.aload_n 0, 1, []) := by decide +kernel
theorem f_19_12 : mFetch 19 12 = some (.getfield 39, 3, [0, 11, 0, 411]) := by decide +kernel
theorem f_19_15 : mFetch 19 15 = some (.if_icmp .ne 22, 3, [37]) := by decide +kernel
theorem f_19_18 : mFetch 19 18 = some (.aload_n 0, 1, []) := by decide +kernel
theorem f_19_19 : mFetch 19 19 = some (.getfield 43, 3, [0, 0, 0, 394]) := by decide +kernel
theorem f_19_22 : mFetch 19 22 = some (.getfield 192, 3, [8, 14, 1, 26]) := by decide +kernel
theorem f_19_25 : mFetch 19 25 = some (.iload_n 1, 1, []) := by decide +kernel
theorem f_19_26 : mFetch 19 26 = some (.invokestatic 108, 3, [123, 2, 1, 0, 14, 559]) := by decide +kernel
theorem f_19_29 : mFetch 19 29 = some (.iload_n 2, 1, []) := by decide +kernel
theorem f_19_30 : mFetch 19 30 = some (.if_icmp .ne 7, 3, [37]) := by decide +kernel
theorem f_19_33 : mFetch 19 33 = some (.iconst 1, 1, []) := by decide +kernel
theorem f_19_34 : mFetch 19 34 = some (.goto 4, 3, [38]) := by decide +kernel
theorem f_19_37 : mFetch 19 37 = some (.iconst 0, 1, []) := by decide +kernel
theorem f_19_38 : mFetch 19 38 = some (.ireturn, 1, [2]) := by decide +kernel
theorem b_19_0 {d : Nat} {a0 : Nat} {x1 : Int32} {x2 : Int32} {w : MW} (h0 : mTg w a0 = 0) (h1 : mR w a0 0 = some (gR w a0 0)) (h2 : mTg w (gR w a0 0) = 8) (h3 : mR w (gR w a0 0) 15 = some (gR w (gR w a0 0) 15)) : mX (d + 1) 19 0 [.ref a0, .int x1, .int x2] [] w = mThen (mK d 123 [.ref (gR w (gR w a0 0) 15), .int x1] w) (fun v w9 => mX (d + 1) 19 11 [.ref a0, .int x1, .int x2] (v.toList ++ []) w9) := by
  refine Eq.trans (X_st f_19_0 rfl rfl) ?_
  refine Eq.trans (X_getR f_19_1 h0 rfl h1) ?_
  refine Eq.trans (X_getR f_19_4 h2 rfl h3) ?_
  refine Eq.trans (X_st f_19_7 rfl rfl) ?_
  refine Eq.trans (X_call f_19_8 (by decide) rfl rfl rfl rfl rfl rfl (Nat.le_of_ble_eq_true rfl) (Nat.le_of_ble_eq_true rfl) rfl (Nat.le_of_ble_eq_true rfl)) ?_
  exact mThen_eq fun v w9 => mX_mask rfl
theorem e_19 {d : Nat} {a0 : Nat} {x1 : Int32} {x2 : Int32} {w : MW} : mK d 19 [.ref a0, .int x1, .int x2] w = mX d 19 0 [.ref a0, .int x1, .int x2] [] w := rfl
theorem b_19_11 {d : Nat} {a0 : Nat} {x1 : Int32} {x2 : Int32} {y0 : Int32} {w : MW} (h0 : mTg w a0 = 0) : mX d 19 11 [.ref a0, .int x1, .int x2] [.int y0] w = (if ¬ y0 = (mI w a0 11) then mX d 19 37 [mJ, mJ, mJ] [] w else mX d 19 18 [.ref a0, .int x1, .int x2] [] w) := by
  refine Eq.trans (X_st f_19_11 rfl rfl) ?_
  refine Eq.trans (X_getI f_19_12 h0 rfl) ?_
  refine Eq.trans (X_br f_19_15 rfl rfl) ?_
  exact mIte_eq (mX_mask rfl) (mX_mask rfl)
theorem b_19_18 {d : Nat} {a0 : Nat} {x1 : Int32} {x2 : Int32} {w : MW} (h0 : mTg w a0 = 0) (h1 : mR w a0 0 = some (gR w a0 0)) (h2 : mTg w (gR w a0 0) = 8) (h3 : mR w (gR w a0 0) 14 = some (gR w (gR w a0 0) 14)) : mX (d + 1) 19 18 [.ref a0, .int x1, .int x2] [] w = mThen (mK d 123 [.ref (gR w (gR w a0 0) 14), .int x1] w) (fun v w9 => mX (d + 1) 19 29 [mJ, mJ, .int x2] (v.toList ++ []) w9) := by
  refine Eq.trans (X_st f_19_18 rfl rfl) ?_
  refine Eq.trans (X_getR f_19_19 h0 rfl h1) ?_
  refine Eq.trans (X_getR f_19_22 h2 rfl h3) ?_
  refine Eq.trans (X_st f_19_25 rfl rfl) ?_
  refine Eq.trans (X_call f_19_26 (by decide) rfl rfl rfl rfl rfl rfl (Nat.le_of_ble_eq_true rfl) (Nat.le_of_ble_eq_true rfl) rfl (Nat.le_of_ble_eq_true rfl)) ?_
  exact mThen_eq fun v w9 => mX_mask rfl
theorem b_19_29 {d : Nat} {x2 : Int32} {y0 : Int32} {w : MW} : mX d 19 29 [mJ, mJ, .int x2] [.int y0] w = (if ¬ y0 = x2 then mX d 19 37 [mJ, mJ, mJ] [] w else mX d 19 33 [mJ, mJ, mJ] [] w) := by
  refine Eq.trans (X_st f_19_29 rfl rfl) ?_
  refine Eq.trans (X_br f_19_30 rfl rfl) ?_
  exact mIte_eq (mX_mask rfl) (mX_mask rfl)
theorem b_19_33 {d : Nat} {w : MW} : mX d 19 33 [mJ, mJ, mJ] [] w = mX d 19 38 [mJ, mJ, mJ] [.int (nI 1)] w := by
  refine Eq.trans (X_iconst f_19_33 kc_i_1) ?_
  refine Eq.trans (X_st f_19_34 rfl rfl) ?_
  exact mX_mask rfl
theorem b_19_37 {d : Nat} {w : MW} : mX d 19 37 [mJ, mJ, mJ] [] w = mX d 19 38 [mJ, mJ, mJ] [.int (nI 0)] w := by
  refine Eq.trans (X_iconst f_19_37 kc_i_0) ?_
  exact mX_mask rfl
theorem b_19_38 {d : Nat} {y0 : Int32} {w : MW} (h0 : mRk 2 y0 = true) : mX d 19 38 [mJ, mJ, mJ] [.int y0] w = some (.inl (some (.int y0)), w) := by
  exact X_ireturn f_19_38 h0
/-! BeeTurnpike$Bee spellWord ()V -/
theorem f_20_0 : mFetch 20 0 = some (.aload_n 0, 1, []) := by decide +kernel
theorem f_20_1 : mFetch 20 1 = some (.aload_n 0, 1, []) := by decide +kernel
theorem f_20_2 : mFetch 20 2 = some (.getfield 39, 3, [0, 11, 0, 411]) := by decide +kernel
theorem f_20_5 : mFetch 20 5 = some (.invokevirtual 72, 3, [1, 2, 2, 0, 575, 576, 577]) := by decide +kernel
theorem f_20_8 : mFetch 20 8 = some (.astore_n 1, 1, []) := by decide +kernel
theorem f_20_9 : mFetch 20 9 = some (.aload_n 0, 1, []) := by decide +kernel
theorem f_20_10 : mFetch 20 10 = some (.invokevirtual 146, 3, [5, 1, 2, 0, 641, 554, 555]) := by decide +kernel
theorem f_20_13 : mFetch 20 13 = some (.istore_n 2, 1, []) := by decide +kernel
theorem f_20_14 : mFetch 20 14 = some (.aload_n 0, 1, []) := by decide +kernel
theorem f_20_15 : mFetch 20 15 = some (.getfield 43, 3, [0, 0, 0, 394]) := by decide +kernel
theorem f_20_18 : mFetch 20 18 = some (.iload_n 2, 1, []) := by decide +kernel
theorem f_20_19 : mFetch 20 19 = some (.invokevirtual 195, 3, [87, 2, 2, 8, 723, 602, 603]) := by decide +kernel
theorem f_20_22 : mFetch 20 22 = some (.istore_n 3, 1, []) := by decide +kernel
theorem f_20_23 : mFetch 20 23 = some (.iload_n 3, 1, []) := by decide +kernel
theorem f_20_24 : mFetch 20 24 = some (.aload_n 0, 1, []) := by decide +kernel
theorem f_20_25 : mFetch 20 25 = some (.aload_n 0, 1, []) := by decide +kernel
theorem f_20_26 : mFetch 20 26 = some (.getfield 39, 3, [0, 11, 0, 411]) := by decide +kernel
theorem f_20_29 : mFetch 20 29 = some (.iload_n 2, 1, []) := by decide +kernel
theorem f_20_30 : mFetch 20 30 = some (.invokevirtual 198, 3, [11, 3, 2, 0, 724, 634, 635]) := by decide +kernel
theorem f_20_33 : mFetch 20 33 = some (.isub, 1, []) := by decide +kernel
theorem f_20_34 : mFetch 20 34 = some (.istore 4, 2, []) := by decide +kernel
theorem f_20_36 : mFetch 20 36 = some (.iconst 1, 1, []) := by decide +kernel
theorem f_20_37 : mFetch 20 37 = some (.istore 5, 2, []) := by decide +kernel
theorem f_20_39 : mFetch 20 39 = some (.iload 4, 2, []) := by decide +kernel
theorem f_20_41 : mFetch 20 41 = some (.ifCond .gt 26, 3, [67]) := by decide +kernel
theorem f_20_44 : mFetch 20 44 = some (.aload_n 1, 1, []) := by decide +kernel
theorem f_20_45 : mFetch 20 45 = some (.dup, 1, []) := by decide +kernel
theorem f_20_46 : mFetch 20 46 = some (.getfield 119, 3, [4, 5, 1, 16]) := by decide +kernel
theorem f_20_49 : mFetch 20 49 = some (.iconst 1, 1, []) := by decide +kernel
theorem f_20_50 : mFetch 20 50 = some (.iload_n 3, 1, []) := by decide +kernel
theorem f_20_51 : mFetch 20 51 = some (.iconst 4, 1, []) := by decide +kernel
theorem f_20_52 : mFetch 20 52 = some (.idiv, 1, []) := by decide +kernel
theorem f_20_53 : mFetch 20 53 = some (.iadd, 1, []) := by decide +kernel
theorem f_20_54 : mFetch 20 54 = some (.iadd, 1, []) := by decide +kernel
theorem f_20_55 : mFetch 20 55 = some (.putfield 119, 3, [4, 5, 1, 16]) := by decide +kernel
theorem f_20_58 : mFetch 20 58 = some (.aload_n 0, 1, []) := by decide +kernel
theorem f_20_59 : mFetch 20 59 = some (.aload_n 1, 1, []) := by decide +kernel
theorem f_20_60 : mFetch 20 60 = some (.iload_n 2, 1, []) := by decide +kernel
theorem f_20_61 : mFetch 20 61 = some (.invokevirtual 201, 3, [21, 3, 2, 0, 725, 727, 15]) := by decide +kernel
theorem f_20_64 : mFetch 20 64 = some (.goto 43, 3, [107]) := by decide +kernel
theorem f_20_67 : mFetch 20 67 = some (.aload_n 1, 1, []) := by decide +kernel
theorem f_20_68 : mFetch 20 68 = some (.getfield 205, 3, [4, 4, 1, 27]) := by decide +kernel
theorem f_20_71 : mFetch 20 71 = some (.ifCond .eq 33, 3, [104]) := by decide +kernel
theorem f_20_74 : mFetch 20 74 = some (.aload_n 0, 1, []) := by decide +kernel
theorem f_20_75 : mFetch 20 75 = some (.invokevirtual 208, 3, [22, 1, 2, 0, 729, 731, 16]) := by decide +kernel
theorem f_20_78 : mFetch 20 78 = some (.ifCond .eq 26, 3, [104]) := by decide +kernel
theorem f_20_81 : mFetch 20 81 = some (.iload 4, 2, []) := by decide +kernel
theorem f_20_83 : mFetch 20 83 = some (.iconst 2, 1, []) := by decide +kernel
theorem f_20_84 : mFetch 20 84 = some (.if_icmp .gt 7, 3, [91]) := by decide +kernel
theorem f_20_87 : mFetch 20 87 = some (.iconst 1, 1, []) := by decide +kernel
theorem f_20_88 : mFetch 20 88 = some (.goto 4, 3, [92]) := by decide +kernel
theorem f_20_91 : mFetch 20 91 = some (.iconst 0, 1, []) := by decide +kernel
theorem f_20_92 : mFetch 20 92 = some (.istore 5, 2, []) := by decide +kernel
theorem f_20_94 : mFetch 20 94 = some (.aload_n 0, 1, []) := by decide +kernel
theorem f_20_95 : mFetch 20 95 = some (.aload_n 1, 1, []) := by decide +kernel
theorem f_20_96 : mFetch 20 96 = some (.iload 5, 2, []) := by decide +kernel
theorem f_20_98 : mFetch 20 98 = some (.invokevirtual 211, 3, [23, 3, 2, 0, 733, 735, 17]) := by decide +kernel
theorem f_20_101 : mFetch 20 101 = some (.goto 6, 3, [107]) := by decide +kernel
theorem f_20_104 : mFetch 20 104 = some (.iconst 0, 1, []) := by decide +kernel
theorem f_20_105 : mFetch 20 105 = some (.istore 5, 2, []) := by decide +kernel
theorem f_20_107 : mFetch 20 107 = some (.aload_n 0, 1, []) := by decide +kernel
theorem f_20_108 : mFetch 20 108 = some (.aload_n 1, 1, []) := by decide +kernel
theorem f_20_109 : mFetch 20 109 = some (.iload_n 2, 1, []) := by decide +kernel
theorem f_20_110 : mFetch 20 110 = some (.iload 5, 2, []) := by decide +kernel
theorem f_20_112 : mFetch 20 112 = some (.invokevirtual 215, 3, [24, 4, 2, 0, 737, 739, 18]) := by decide +kernel
theorem f_20_115 : mFetch 20 115 = some (.aload_n 0, 1, []) := by decide +kernel
theorem f_20_116 : mFetch 20 116 = some (.aload_n 0, 1, []) := by decide +kernel
theorem f_20_117 : mFetch 20 117 = some (.getfield 56, 3, [0, 10, 0, 410]) := by decide +kernel
theorem f_20_120 : mFetch 20 120 = some (.iconst 1, 1, []) := by decide +kernel
theorem f_20_121 : mFetch 20 121 = some (.iadd, 1, []) := by decide +kernel
theorem f_20_122 : mFetch 20 122 = some (.aload_n 0, 1, []) := by decide +kernel
theorem f_20_123 : mFetch 20 123 = some (.getfield 43, 3, [0, 0, 0, 394]) := by decide +kernel
theorem f_20_126 : mFetch 20 126 = some (.getfield 219, 3, [8, 12, 1, 28]) := by decide +kernel
theorem f_20_129 : mFetch 20 129 = some (.aload_n 0, 1, []) := by decide +kernel
theorem f_20_130 : mFetch 20 130 = some (.getfield 50, 3, [0, 8, 0, 407]) := by decide +kernel
theorem f_20_133 : mFetch 20 133 = some (.invokestatic 108, 3, [123, 2, 1, 0, 14, 559]) := by decide +kernel
theorem f_20_136 : mFetch 20 136 = some (.if_icmp .ge 12, 3, [148]) := by decide +kernel
theorem f_20_139 : mFetch 20 139 = some (.aload_n 0, 1, []) := by decide +kernel
theorem f_20_140 : mFetch 20 140 = some (.getfield 56, 3, [0, 10, 0, 410]) := by decide +kernel
theorem f_20_143 : mFetch 20 143 = some (.iconst 1, 1, []) := by decide +kernel
theorem f_20_144 : mFetch 20 144 = some (.iadd, 1, []) := by decide +kernel
theorem f_20_145 : mFetch 20 145 = some (.goto 4, 3, [149]) := by decide +kernel
theorem f_20_148 : mFetch 20 148 = some (.iconst 0, 1, []) := by decide +kernel
theorem f_20_149 : mFetch 20 149 = some (.putfield 56, 3, [0, 10, 0, 410]) := by decide +kernel
theorem f_20_152 : mFetch 20 152 = some (.return_, 1, []) := by decide +kernel
theorem b_20_0 {d : Nat} {a0 : Nat} {w : MW} (h0 : mTg w a0 = 0) : mX (d + 1) 20 0 [.ref a0, mJ, mJ, mJ, mJ, mJ] [] w = mThen (mK d 1 [.ref a0, .int (mI w a0 11)] w) (fun v w9 => mX (d + 1) 20 8 [.ref a0, mJ, mJ, mJ, mJ, mJ] (v.toList ++ []) w9) := by
  refine Eq.trans (X_st f_20_0 rfl rfl) ?_
  refine Eq.trans (X_st f_20_1 rfl rfl) ?_
  refine Eq.trans (X_getI f_20_2 h0 rfl) ?_
  refine Eq.trans (X_call f_20_5 (by decide) rfl rfl rfl rfl rfl rfl (Nat.le_of_ble_eq_true rfl) (Nat.le_of_ble_eq_true rfl) (decide_eq_true h0) (Nat.le_of_ble_eq_true rfl)) ?_
  exact mThen_eq fun v w9 => mX_mask rfl
theorem e_20 {d : Nat} {a0 : Nat} {w : MW} : mK d 20 [.ref a0] w = mX d 20 0 [.ref a0, mJ, mJ, mJ, mJ, mJ] [] w := rfl
theorem b_20_8 {d : Nat} {a0 : Nat} {b0 : Nat} {w : MW} (h0 : mTg w a0 = 0) : mX (d + 1) 20 8 [.ref a0, mJ, mJ, mJ, mJ, mJ] [.ref b0] w = mThen (mK d 5 [.ref a0] w) (fun v w9 => mX (d + 1) 20 13 [.ref a0, .ref b0, mJ, mJ, mJ, mJ] (v.toList ++ []) w9) := by
  refine Eq.trans (X_astore_n (L' := [.ref a0, .ref b0, mJ, mJ, mJ, mJ]) f_20_8 (Nat.le_of_ble_eq_true rfl) rfl) ?_
  refine Eq.trans (X_st f_20_9 rfl rfl) ?_
  refine Eq.trans (X_call f_20_10 (by decide) rfl rfl rfl rfl rfl rfl (Nat.le_of_ble_eq_true rfl) (Nat.le_of_ble_eq_true rfl) (decide_eq_true h0) (Nat.le_of_ble_eq_true rfl)) ?_
  exact mThen_eq fun v w9 => mX_mask rfl
theorem b_20_13 {d : Nat} {a0 : Nat} {a1 : Nat} {y0 : Int32} {w : MW} (h0 : mTg w a0 = 0) (h1 : mR w a0 0 = some (gR w a0 0)) (h2 : mTg w (gR w a0 0) = 8) : mX (d + 1) 20 13 [.ref a0, .ref a1, mJ, mJ, mJ, mJ] [.int y0] w = mThen (mK d 87 [.ref (gR w a0 0), .int y0] w) (fun v w9 => mX (d + 1) 20 22 [.ref a0, .ref a1, .int y0, mJ, mJ, mJ] (v.toList ++ []) w9) := by
  refine Eq.trans (X_istore_n (L' := [.ref a0, .ref a1, .int y0, mJ, mJ, mJ]) f_20_13 (Nat.le_of_ble_eq_true rfl) rfl) ?_
  refine Eq.trans (X_st f_20_14 rfl rfl) ?_
  refine Eq.trans (X_getR f_20_15 h0 rfl h1) ?_
  refine Eq.trans (X_st f_20_18 rfl rfl) ?_
  refine Eq.trans (X_call f_20_19 (by decide) rfl rfl rfl rfl rfl rfl (Nat.le_of_ble_eq_true rfl) (Nat.le_of_ble_eq_true rfl) (decide_eq_true h2) (Nat.le_of_ble_eq_true rfl)) ?_
  exact mThen_eq fun v w9 => mX_mask rfl
theorem b_20_22 {d : Nat} {a0 : Nat} {a1 : Nat} {x2 : Int32} {y0 : Int32} {w : MW} (h0 : mTg w a0 = 0) : mX (d + 1) 20 22 [.ref a0, .ref a1, .int x2, mJ, mJ, mJ] [.int y0] w = mThen (mK d 11 [.ref a0, .int (mI w a0 11), .int x2] w) (fun v w9 => mX (d + 1) 20 33 [.ref a0, .ref a1, .int x2, .int y0, mJ, mJ] (v.toList ++ [.int y0]) w9) := by
  refine Eq.trans (X_istore_n (L' := [.ref a0, .ref a1, .int x2, .int y0, mJ, mJ]) f_20_22 (Nat.le_of_ble_eq_true rfl) rfl) ?_
  refine Eq.trans (X_st f_20_23 rfl rfl) ?_
  refine Eq.trans (X_st f_20_24 rfl rfl) ?_
  refine Eq.trans (X_st f_20_25 rfl rfl) ?_
  refine Eq.trans (X_getI f_20_26 h0 rfl) ?_
  refine Eq.trans (X_st f_20_29 rfl rfl) ?_
  refine Eq.trans (X_call f_20_30 (by decide) rfl rfl rfl rfl rfl rfl (Nat.le_of_ble_eq_true rfl) (Nat.le_of_ble_eq_true rfl) (decide_eq_true h0) (Nat.le_of_ble_eq_true rfl)) ?_
  exact mThen_eq fun v w9 => mX_mask rfl
theorem b_20_33 {d : Nat} {a0 : Nat} {a1 : Nat} {x2 : Int32} {x3 : Int32} {y0 : Int32} {y1 : Int32} {w : MW} : mX d 20 33 [.ref a0, .ref a1, .int x2, .int x3, mJ, mJ] [.int y0, .int y1] w = (if nI 0 < (y1 - y0) then mX d 20 67 [.ref a0, .ref a1, .int x2, mJ, .int (y1 - y0), mJ] [] w else mX d 20 44 [.ref a0, .ref a1, .int x2, .int x3, mJ, .int (nI 1)] [] w) := by
  refine Eq.trans (X_st f_20_33 rfl rfl) ?_
  refine Eq.trans (X_istore (L' := [.ref a0, .ref a1, .int x2, .int x3, .int (y1 - y0), mJ]) f_20_34 (Nat.le_of_ble_eq_true rfl) rfl) ?_
  refine Eq.trans (X_iconst f_20_36 kc_i_1) ?_
  refine Eq.trans (X_istore (L' := [.ref a0, .ref a1, .int x2, .int x3, .int (y1 - y0), .int (nI 1)]) f_20_37 (Nat.le_of_ble_eq_true rfl) rfl) ?_
  refine Eq.trans (X_st f_20_39 rfl rfl) ?_
  refine Eq.trans (X_br f_20_41 rfl rfl) ?_
  exact mIte_eq (mX_mask rfl) (mX_mask rfl)
theorem b_20_44 {d : Nat} {a0 : Nat} {a1 : Nat} {x2 : Int32} {x3 : Int32} {x5 : Int32} {w : MW} (h0 : mTg w a1 = 4) (h1 : mE ≤ a1) (h2 : mTg (wI w a1 5 ((mI w a1 5) + ((nI 1) + (x3 / (nI 4))))) a0 = 0) : mX (d + 1) 20 44 [.ref a0, .ref a1, .int x2, .int x3, mJ, .int x5] [] w = mThen (mK d 21 [.ref a0, .ref a1, .int x2] (wI w a1 5 ((mI w a1 5) + ((nI 1) + (x3 / (nI 4)))))) (fun v w9 => mX (d + 1) 20 64 [.ref a0, .ref a1, .int x2, mJ, mJ, .int x5] (v.toList ++ []) w9) := by
  refine Eq.trans (X_st f_20_44 rfl rfl) ?_
  refine Eq.trans (X_dup f_20_45 rfl) ?_
  refine Eq.trans (X_getI f_20_46 h0 rfl) ?_
  refine Eq.trans (X_iconst f_20_49 kc_i_1) ?_
  refine Eq.trans (X_st f_20_50 rfl rfl) ?_
  refine Eq.trans (X_iconst f_20_51 kc_i_4) ?_
  refine Eq.trans (X_idiv f_20_52 kz_4) ?_
  refine Eq.trans (X_st f_20_53 rfl rfl) ?_
  refine Eq.trans (X_st f_20_54 rfl rfl) ?_
  refine Eq.trans (X_putI f_20_55 h0 h1 rfl rfl) ?_
  refine Eq.trans (X_st f_20_58 rfl rfl) ?_
  refine Eq.trans (X_st f_20_59 rfl rfl) ?_
  refine Eq.trans (X_st f_20_60 rfl rfl) ?_
  refine Eq.trans (X_call f_20_61 (by decide) rfl rfl rfl rfl rfl rfl (Nat.le_of_ble_eq_true rfl) (Nat.le_of_ble_eq_true rfl) (decide_eq_true h2) (Nat.le_of_ble_eq_true rfl)) ?_
  exact mThen_eq fun v w9 => mX_mask rfl
theorem b_20_64 {d : Nat} {a0 : Nat} {a1 : Nat} {x2 : Int32} {x5 : Int32} {w : MW} : mX d 20 64 [.ref a0, .ref a1, .int x2, mJ, mJ, .int x5] [] w = mX d 20 107 [.ref a0, .ref a1, .int x2, mJ, mJ, .int x5] [] w := by
  refine Eq.trans (X_st f_20_64 rfl rfl) ?_
  exact mX_mask rfl
theorem b_20_67 {d : Nat} {a0 : Nat} {a1 : Nat} {x2 : Int32} {x4 : Int32} {w : MW} (h0 : mTg w a1 = 4) : mX d 20 67 [.ref a0, .ref a1, .int x2, mJ, .int x4, mJ] [] w = (if (mI w a1 4) = nI 0 then mX d 20 104 [.ref a0, .ref a1, .int x2, mJ, mJ, mJ] [] w else mX d 20 74 [.ref a0, .ref a1, .int x2, mJ, .int x4, mJ] [] w) := by
  refine Eq.trans (X_st f_20_67 rfl rfl) ?_
  refine Eq.trans (X_getI f_20_68 h0 rfl) ?_
  refine Eq.trans (X_br f_20_71 rfl rfl) ?_
  exact mIte_eq (mX_mask rfl) (mX_mask rfl)
theorem b_20_74 {d : Nat} {a0 : Nat} {a1 : Nat} {x2 : Int32} {x4 : Int32} {w : MW} (h0 : mTg w a0 = 0) : mX (d + 1) 20 74 [.ref a0, .ref a1, .int x2, mJ, .int x4, mJ] [] w = mThen (mK d 22 [.ref a0] w) (fun v w9 => mX (d + 1) 20 78 [.ref a0, .ref a1, .int x2, mJ, .int x4, mJ] (v.toList ++ []) w9) := by
  refine Eq.trans (X_st f_20_74 rfl rfl) ?_
  refine Eq.trans (X_call f_20_75 (by decide) rfl rfl rfl rfl rfl rfl (Nat.le_of_ble_eq_true rfl) (Nat.le_of_ble_eq_true rfl) (decide_eq_true h0) (Nat.le_of_ble_eq_true rfl)) ?_
  exact mThen_eq fun v w9 => mX_mask rfl
theorem b_20_78 {d : Nat} {a0 : Nat} {a1 : Nat} {x2 : Int32} {x4 : Int32} {y0 : Int32} {w : MW} : mX d 20 78 [.ref a0, .ref a1, .int x2, mJ, .int x4, mJ] [.int y0] w = (if y0 = nI 0 then mX d 20 104 [.ref a0, .ref a1, .int x2, mJ, mJ, mJ] [] w else mX d 20 81 [.ref a0, .ref a1, .int x2, mJ, .int x4, mJ] [] w) := by
  refine Eq.trans (X_br f_20_78 rfl rfl) ?_
  exact mIte_eq (mX_mask rfl) (mX_mask rfl)
theorem b_20_81 {d : Nat} {a0 : Nat} {a1 : Nat} {x2 : Int32} {x4 : Int32} {w : MW} : mX d 20 81 [.ref a0, .ref a1, .int x2, mJ, .int x4, mJ] [] w = (if (nI 2) < x4 then mX d 20 91 [.ref a0, .ref a1, .int x2, mJ, mJ, mJ] [] w else mX d 20 87 [.ref a0, .ref a1, .int x2, mJ, mJ, mJ] [] w) := by
  refine Eq.trans (X_st f_20_81 rfl rfl) ?_
  refine Eq.trans (X_iconst f_20_83 kc_i_2) ?_
  refine Eq.trans (X_br f_20_84 rfl rfl) ?_
  exact mIte_eq (mX_mask rfl) (mX_mask rfl)
theorem b_20_87 {d : Nat} {a0 : Nat} {a1 : Nat} {x2 : Int32} {w : MW} : mX d 20 87 [.ref a0, .ref a1, .int x2, mJ, mJ, mJ] [] w = mX d 20 92 [.ref a0, .ref a1, .int x2, mJ, mJ, mJ] [.int (nI 1)] w := by
  refine Eq.trans (X_iconst f_20_87 kc_i_1) ?_
  refine Eq.trans (X_st f_20_88 rfl rfl) ?_
  exact mX_mask rfl
theorem b_20_91 {d : Nat} {a0 : Nat} {a1 : Nat} {x2 : Int32} {w : MW} : mX d 20 91 [.ref a0, .ref a1, .int x2, mJ, mJ, mJ] [] w = mX d 20 92 [.ref a0, .ref a1, .int x2, mJ, mJ, mJ] [.int (nI 0)] w := by
  refine Eq.trans (X_iconst f_20_91 kc_i_0) ?_
  exact mX_mask rfl
theorem b_20_92 {d : Nat} {a0 : Nat} {a1 : Nat} {x2 : Int32} {y0 : Int32} {w : MW} (h0 : mTg w a0 = 0) : mX (d + 1) 20 92 [.ref a0, .ref a1, .int x2, mJ, mJ, mJ] [.int y0] w = mThen (mK d 23 [.ref a0, .ref a1, .int y0] w) (fun v w9 => mX (d + 1) 20 101 [.ref a0, .ref a1, .int x2, mJ, mJ, .int y0] (v.toList ++ []) w9) := by
  refine Eq.trans (X_istore (L' := [.ref a0, .ref a1, .int x2, mJ, mJ, .int y0]) f_20_92 (Nat.le_of_ble_eq_true rfl) rfl) ?_
  refine Eq.trans (X_st f_20_94 rfl rfl) ?_
  refine Eq.trans (X_st f_20_95 rfl rfl) ?_
  refine Eq.trans (X_st f_20_96 rfl rfl) ?_
  refine Eq.trans (X_call f_20_98 (by decide) rfl rfl rfl rfl rfl rfl (Nat.le_of_ble_eq_true rfl) (Nat.le_of_ble_eq_true rfl) (decide_eq_true h0) (Nat.le_of_ble_eq_true rfl)) ?_
  exact mThen_eq fun v w9 => mX_mask rfl
theorem b_20_101 {d : Nat} {a0 : Nat} {a1 : Nat} {x2 : Int32} {x5 : Int32} {w : MW} : mX d 20 101 [.ref a0, .ref a1, .int x2, mJ, mJ, .int x5] [] w = mX d 20 107 [.ref a0, .ref a1, .int x2, mJ, mJ, .int x5] [] w := by
  refine Eq.trans (X_st f_20_101 rfl rfl) ?_
  exact mX_mask rfl
theorem b_20_104 {d : Nat} {a0 : Nat} {a1 : Nat} {x2 : Int32} {w : MW} : mX d 20 104 [.ref a0, .ref a1, .int x2, mJ, mJ, mJ] [] w = mX d 20 107 [.ref a0, .ref a1, .int x2, mJ, mJ, .int (nI 0)] [] w := by
  refine Eq.trans (X_iconst f_20_104 kc_i_0) ?_
  refine Eq.trans (X_istore (L' := [.ref a0, .ref a1, .int x2, mJ, mJ, .int (nI 0)]) f_20_105 (Nat.le_of_ble_eq_true rfl) rfl) ?_
  exact mX_mask rfl
theorem b_20_107 {d : Nat} {a0 : Nat} {a1 : Nat} {x2 : Int32} {x5 : Int32} {w : MW} (h0 : mTg w a0 = 0) : mX (d + 1) 20 107 [.ref a0, .ref a1, .int x2, mJ, mJ, .int x5] [] w = mThen (mK d 24 [.ref a0, .ref a1, .int x2, .int x5] w) (fun v w9 => mX (d + 1) 20 115 [.ref a0, mJ, mJ, mJ, mJ, mJ] (v.toList ++ []) w9) := by
  refine Eq.trans (X_st f_20_107 rfl rfl) ?_
  refine Eq.trans (X_st f_20_108 rfl rfl) ?_
  refine Eq.trans (X_st f_20_109 rfl rfl) ?_
  refine Eq.trans (X_st f_20_110 rfl rfl) ?_
  refine Eq.trans (X_call f_20_112 (by decide) rfl rfl rfl rfl rfl rfl (Nat.le_of_ble_eq_true rfl) (Nat.le_of_ble_eq_true rfl) (decide_eq_true h0) (Nat.le_of_ble_eq_true rfl)) ?_
  exact mThen_eq fun v w9 => mX_mask rfl
theorem b_20_115 {d : Nat} {a0 : Nat} {w : MW} (h0 : mTg w a0 = 0) (h1 : mR w a0 0 = some (gR w a0 0)) (h2 : mTg w (gR w a0 0) = 8) (h3 : mR w (gR w a0 0) 12 = some (gR w (gR w a0 0) 12)) : mX (d + 1) 20 115 [.ref a0, mJ, mJ, mJ, mJ, mJ] [] w = mThen (mK d 123 [.ref (gR w (gR w a0 0) 12), .int (mI w a0 8)] w) (fun v w9 => mX (d + 1) 20 136 [.ref a0, mJ, mJ, mJ, mJ, mJ] (v.toList ++ [.int ((mI w a0 10) + (nI 1)), .ref a0]) w9) := by
  refine Eq.trans (X_st f_20_115 rfl rfl) ?_
  refine Eq.trans (X_st f_20_116 rfl rfl) ?_
  refine Eq.trans (X_getI f_20_117 h0 rfl) ?_
  refine Eq.trans (X_iconst f_20_120 kc_i_1) ?_
  refine Eq.trans (X_st f_20_121 rfl rfl) ?_
  refine Eq.trans (X_st f_20_122 rfl rfl) ?_
  refine Eq.trans (X_getR f_20_123 h0 rfl h1) ?_
  refine Eq.trans (X_getR f_20_126 h2 rfl h3) ?_
  refine Eq.trans (X_st f_20_129 rfl rfl) ?_
  refine Eq.trans (X_getI f_20_130 h0 rfl) ?_
  refine Eq.trans (X_call f_20_133 (by decide) rfl rfl rfl rfl rfl rfl (Nat.le_of_ble_eq_true rfl) (Nat.le_of_ble_eq_true rfl) rfl (Nat.le_of_ble_eq_true rfl)) ?_
  exact mThen_eq fun v w9 => mX_mask rfl
theorem b_20_136 {d : Nat} {a0 : Nat} {y0 : Int32} {y1 : Int32} {b2 : Nat} {w : MW} : mX d 20 136 [.ref a0, mJ, mJ, mJ, mJ, mJ] [.int y0, .int y1, .ref b2] w = (if y0 ≤ y1 then mX d 20 148 [mJ, mJ, mJ, mJ, mJ, mJ] [.ref b2] w else mX d 20 139 [.ref a0, mJ, mJ, mJ, mJ, mJ] [.ref b2] w) := by
  refine Eq.trans (X_br f_20_136 rfl rfl) ?_
  exact mIte_eq (mX_mask rfl) (mX_mask rfl)
theorem b_20_139 {d : Nat} {a0 : Nat} {b0 : Nat} {w : MW} (h0 : mTg w a0 = 0) : mX d 20 139 [.ref a0, mJ, mJ, mJ, mJ, mJ] [.ref b0] w = mX d 20 149 [mJ, mJ, mJ, mJ, mJ, mJ] [.int ((mI w a0 10) + (nI 1)), .ref b0] w := by
  refine Eq.trans (X_st f_20_139 rfl rfl) ?_
  refine Eq.trans (X_getI f_20_140 h0 rfl) ?_
  refine Eq.trans (X_iconst f_20_143 kc_i_1) ?_
  refine Eq.trans (X_st f_20_144 rfl rfl) ?_
  refine Eq.trans (X_st f_20_145 rfl rfl) ?_
  exact mX_mask rfl
theorem b_20_148 {d : Nat} {b0 : Nat} {w : MW} : mX d 20 148 [mJ, mJ, mJ, mJ, mJ, mJ] [.ref b0] w = mX d 20 149 [mJ, mJ, mJ, mJ, mJ, mJ] [.int (nI 0), .ref b0] w := by
  refine Eq.trans (X_iconst f_20_148 kc_i_0) ?_
  exact mX_mask rfl
theorem b_20_149 {d : Nat} {y0 : Int32} {b1 : Nat} {w : MW} (h0 : mTg w b1 = 0) (h1 : mE ≤ b1) : mX d 20 149 [mJ, mJ, mJ, mJ, mJ, mJ] [.int y0, .ref b1] w = some (.inl none, wI w b1 10 y0) := by
  refine Eq.trans (X_putI f_20_149 h0 h1 rfl rfl) ?_
  exact X_ret f_20_152 rfl rfl
/-! BeeTurnpike$Bee hear (LBeeTurnpike$Speller;I)V -/
theorem f_21_0 : mFetch 21 0 = some (.iconst 0, 1, []) := by decide +kernel
theorem f_21_1 : mFetch 21 1 = some (.istore_n 3, 1, []) := by decide +kernel
theorem f_21_2 : mFetch 21 2 = some (.iload_n 3, 1, []) := by decide +kernel
theorem f_21_3 : mFetch 21 3 = some (.aload_n 0, 1, []) := by decide +kernel
theorem f_21_4 : mFetch 21 4 = some (.getfield 43, 3, [0, 0, 0, 394]) := by decide +kernel
theorem f_21_7 : mFetch 21 7 = some (.getfield 122, 3, [8, 5, 1, 17]) := by decide +kernel
theorem f_21_10 : mFetch 21 10 = some (.iload_n 2, 1, []) := by decide +kernel
theorem f_21_11 : mFetch 21 11 = some (.invokestatic 108, 3, [123, 2, 1, 0, 14, 559]) := by decide +kernel
theorem f_21_14 : mFetch 21 14 = some (.if_icmp .ge 40, 3, [54]) := by decide +kernel
theorem f_21_17 : mFetch 21 17 = some (.aload_n 0, 1, []) := by decide +kernel
theorem f_21_18 : mFetch 21 18 = some (.getfield 43, 3, [0, 0, 0, 394]) := by decide +kernel
theorem f_21_21 : mFetch 21 21 = some (.iload_n 2, 1, []) := by decide +kernel
theorem f_21_22 : mFetch 21 22 = some (.iload_n 3, 1, []) := by decide +kernel
theorem f_21_23 : mFetch 21 23 = some (.invokevirtual 125, 3, [88, 3, 2, 8, 637, 598, 599]) := by decide +kernel
theorem f_21_26 : mFetch 21 26 = some (.istore 4, 2, []) := by decide +kernel
theorem f_21_28 : mFetch 21 28 = some (.aload_n 1, 1, []) := by decide +kernel
theorem f_21_29 : mFetch 21 29 = some (.getfield 132, 3, [4, 1, 1, 19]) := by decide +kernel
theorem f_21_32 : mFetch 21 32 = some (.iload 4, 2, []) := by decide +kernel
theorem f_21_34 : mFetch 21 34 = some (.aload_n 1, 1, []) := by decide +kernel
theorem f_21_35 : mFetch 21 35 = some (.getfield 132, 3, [4, 1, 1, 19]) := by decide +kernel
theorem f_21_38 : mFetch 21 38 = some (.iload 4, 2, []) := by decide +kernel
theorem f_21_40 : mFetch 21 40 = some (.invokestatic 108, 3, [123, 2, 1, 0, 14, 559]) := by decide +kernel
theorem f_21_43 : mFetch 21 43 = some (.iconst 1, 1, []) := by decide +kernel
theorem f_21_44 : mFetch 21 44 = some (.iadd, 1, []) := by decide +kernel
theorem f_21_45 : mFetch 21 45 = some (.invokestatic 168, 3, [124, 3, 1, 0, 24, 689]) := by decide +kernel
theorem f_21_48 : mFetch 21 48 = some (.iinc 3 1, 3, []) := by decide +kernel
theorem f_21_51 : mFetch 21 51 = some (.goto (-49), 3, [2]) := by decide +kernel
theorem f_21_54 : mFetch 21 54 = some (.return_, 1, []) := by decide +kernel
theorem b_21_0 {d : Nat} {a0 : Nat} {a1 : Nat} {x2 : Int32} {w : MW} : mX d 21 0 [.ref a0, .ref a1, .int x2, mJ, mJ] [] w = mX d 21 2 [.ref a0, .ref a1, .int x2, .int (nI 0), mJ] [] w := by
  refine Eq.trans (X_iconst f_21_0 kc_i_0) ?_
  refine Eq.trans (X_istore_n (L' := [.ref a0, .ref a1, .int x2, .int (nI 0), mJ]) f_21_1 (Nat.le_of_ble_eq_true rfl) rfl) ?_
  exact mX_mask rfl
theorem e_21 {d : Nat} {a0 : Nat} {a1 : Nat} {x2 : Int32} {w : MW} : mK d 21 [.ref a0, .ref a1, .int x2] w = mX d 21 0 [.ref a0, .ref a1, .int x2, mJ, mJ] [] w := rfl
theorem b_21_2 {d : Nat} {a0 : Nat} {a1 : Nat} {x2 : Int32} {x3 : Int32} {w : MW} (h0 : mTg w a0 = 0) (h1 : mR w a0 0 = some (gR w a0 0)) (h2 : mTg w (gR w a0 0) = 8) (h3 : mR w (gR w a0 0) 5 = some (gR w (gR w a0 0) 5)) : mX (d + 1) 21 2 [.ref a0, .ref a1, .int x2, .int x3, mJ] [] w = mThen (mK d 123 [.ref (gR w (gR w a0 0) 5), .int x2] w) (fun v w9 => mX (d + 1) 21 14 [.ref a0, .ref a1, .int x2, .int x3, mJ] (v.toList ++ [.int x3]) w9) := by
  refine Eq.trans (X_st f_21_2 rfl rfl) ?_
  refine Eq.trans (X_st f_21_3 rfl rfl) ?_
  refine Eq.trans (X_getR f_21_4 h0 rfl h1) ?_
  refine Eq.trans (X_getR f_21_7 h2 rfl h3) ?_
  refine Eq.trans (X_st f_21_10 rfl rfl) ?_
  refine Eq.trans (X_call f_21_11 (by decide) rfl rfl rfl rfl rfl rfl (Nat.le_of_ble_eq_true rfl) (Nat.le_of_ble_eq_true rfl) rfl (Nat.le_of_ble_eq_true rfl)) ?_
  exact mThen_eq fun v w9 => mX_mask rfl
theorem b_21_14 {d : Nat} {a0 : Nat} {a1 : Nat} {x2 : Int32} {x3 : Int32} {y0 : Int32} {y1 : Int32} {w : MW} : mX d 21 14 [.ref a0, .ref a1, .int x2, .int x3, mJ] [.int y0, .int y1] w = (if y0 ≤ y1 then mX d 21 54 [mJ, mJ, mJ, mJ, mJ] [] w else mX d 21 17 [.ref a0, .ref a1, .int x2, .int x3, mJ] [] w) := by
  refine Eq.trans (X_br f_21_14 rfl rfl) ?_
  exact mIte_eq (mX_mask rfl) (mX_mask rfl)
theorem b_21_17 {d : Nat} {a0 : Nat} {a1 : Nat} {x2 : Int32} {x3 : Int32} {w : MW} (h0 : mTg w a0 = 0) (h1 : mR w a0 0 = some (gR w a0 0)) (h2 : mTg w (gR w a0 0) = 8) : mX (d + 1) 21 17 [.ref a0, .ref a1, .int x2, .int x3, mJ] [] w = mThen (mK d 88 [.ref (gR w a0 0), .int x2, .int x3] w) (fun v w9 => mX (d + 1) 21 26 [.ref a0, .ref a1, .int x2, .int x3, mJ] (v.toList ++ []) w9) := by
  refine Eq.trans (X_st f_21_17 rfl rfl) ?_
  refine Eq.trans (X_getR f_21_18 h0 rfl h1) ?_
  refine Eq.trans (X_st f_21_21 rfl rfl) ?_
  refine Eq.trans (X_st f_21_22 rfl rfl) ?_
  refine Eq.trans (X_call f_21_23 (by decide) rfl rfl rfl rfl rfl rfl (Nat.le_of_ble_eq_true rfl) (Nat.le_of_ble_eq_true rfl) (decide_eq_true h2) (Nat.le_of_ble_eq_true rfl)) ?_
  exact mThen_eq fun v w9 => mX_mask rfl
theorem b_21_26 {d : Nat} {a0 : Nat} {a1 : Nat} {x2 : Int32} {x3 : Int32} {y0 : Int32} {w : MW} (h0 : mTg w a1 = 4) (h1 : mR w a1 1 = some (gR w a1 1)) : mX (d + 1) 21 26 [.ref a0, .ref a1, .int x2, .int x3, mJ] [.int y0] w = mThen (mK d 123 [.ref (gR w a1 1), .int y0] w) (fun v w9 => mX (d + 1) 21 43 [.ref a0, .ref a1, .int x2, .int x3, mJ] (v.toList ++ [.int y0, .ref (gR w a1 1)]) w9) := by
  refine Eq.trans (X_istore (L' := [.ref a0, .ref a1, .int x2, .int x3, .int y0]) f_21_26 (Nat.le_of_ble_eq_true rfl) rfl) ?_
  refine Eq.trans (X_st f_21_28 rfl rfl) ?_
  refine Eq.trans (X_getR f_21_29 h0 rfl h1) ?_
  refine Eq.trans (X_st f_21_32 rfl rfl) ?_
  refine Eq.trans (X_st f_21_34 rfl rfl) ?_
  refine Eq.trans (X_getR f_21_35 h0 rfl h1) ?_
  refine Eq.trans (X_st f_21_38 rfl rfl) ?_
  refine Eq.trans (X_call f_21_40 (by decide) rfl rfl rfl rfl rfl rfl (Nat.le_of_ble_eq_true rfl) (Nat.le_of_ble_eq_true rfl) rfl (Nat.le_of_ble_eq_true rfl)) ?_
  exact mThen_eq fun v w9 => mX_mask rfl
theorem b_21_43 {d : Nat} {a0 : Nat} {a1 : Nat} {x2 : Int32} {x3 : Int32} {y0 : Int32} {y1 : Int32} {b2 : Nat} {w : MW} : mX (d + 1) 21 43 [.ref a0, .ref a1, .int x2, .int x3, mJ] [.int y0, .int y1, .ref b2] w = mThen (mK d 124 [.ref b2, .int y1, .int (y0 + (nI 1))] w) (fun v w9 => mX (d + 1) 21 48 [.ref a0, .ref a1, .int x2, .int x3, mJ] (v.toList ++ []) w9) := by
  refine Eq.trans (X_iconst f_21_43 kc_i_1) ?_
  refine Eq.trans (X_st f_21_44 rfl rfl) ?_
  refine Eq.trans (X_call f_21_45 (by decide) rfl rfl rfl rfl rfl rfl (Nat.le_of_ble_eq_true rfl) (Nat.le_of_ble_eq_true rfl) rfl (Nat.le_of_ble_eq_true rfl)) ?_
  exact mThen_eq fun v w9 => mX_mask rfl
theorem b_21_48 {d : Nat} {a0 : Nat} {a1 : Nat} {x2 : Int32} {x3 : Int32} {w : MW} : mX d 21 48 [.ref a0, .ref a1, .int x2, .int x3, mJ] [] w = mX d 21 2 [.ref a0, .ref a1, .int x2, .int (x3 + (nI 1)), mJ] [] w := by
  refine Eq.trans (X_iinc f_21_48 kc_i_1 rfl rfl) ?_
  refine Eq.trans (X_st f_21_51 rfl rfl) ?_
  exact mX_mask rfl
theorem b_21_54 {d : Nat} {w : MW} : mX d 21 54 [mJ, mJ, mJ, mJ, mJ] [] w = some (.inl none, w) := by
  exact X_ret f_21_54 rfl rfl
/-! BeeTurnpike$Bee wantsAppeal ()Z -/
theorem f_22_0 : mFetch 22 0 = some (.iconst 0, 1, []) := by decide +kernel
theorem f_22_1 : mFetch 22 1 = some (.istore_n 1, 1, []) := by decide +kernel
theorem f_22_2 : mFetch 22 2 = some (.iload_n 1, 1, []) := by decide +kernel
theorem f_22_3 : mFetch 22 3 = some (.aload_n 0, 1, []) := by decide +kernel
theorem f_22_4 : mFetch 22 4 = some (.getfield 43, 3, [0, 0, 0, 394]) := by decide +kernel
theorem f_22_7 : mFetch 22 7 = some (.iconst 5, 1, []) := by decide +kernel
theorem f_22_8 : mFetch 22 8 = some (.invokevirtual 84, 3, [85, 2, 2, 8, 574, 562, 563]) := by decide +kernel
theorem f_22_11 : mFetch 22 11 = some (.if_icmp .ge 33, 3, [44]) := by decide +kernel
theorem f_22_14 : mFetch 22 14 = some (.aload_n 0, 1, []) := by decide +kernel
theorem f_22_15 : mFetch 22 15 = some (.iload_n 1, 1, []) := by decide +kernel
theorem f_22_16 : mFetch 22 16 = some (.bipush 17, 2, []) := by decide +kernel
theorem f_22_18 : mFetch 22 18 = some (.invokevirtual 178, 3, [19, 3, 2, 0, 670, 672, 10]) := by decide +kernel
theorem f_22_21 : mFetch 22 21 = some (.ifCond .eq 17, 3, [38]) := by decide +kernel
theorem f_22_24 : mFetch 22 24 = some (.aload_n 0, 1, []) := by decide +kernel
theorem f_22_25 : mFetch 22 25 = some (.getfield 12, 3, [0, 1, 0, 396]) := by decide +kernel
theorem f_22_28 : mFetch 22 28 = some (.aload_n 0, 1, []) := by decide +kernel
theorem f_22_29 : mFetch 22 29 = some (.iload_n 1, 1, []) := by decide +kernel
theorem f_22_30 : mFetch 22 30 = some (.invokevirtual 185, 3, [48, 3, 2, 3, 678, 679, 680]) := by decide +kernel
theorem f_22_33 : mFetch 22 33 = some (.ifCond .eq 5, 3, [38]) := by decide +kernel
theorem f_22_36 : mFetch 22 36 = some (.iconst 1, 1, []) := by decide +kernel
theorem f_22_37 : mFetch 22 37 = some (.ireturn, 1, [2]) := by decide +kernel
theorem f_22_38 : mFetch 22 38 = some (.iinc 1 1, 3, []) := by decide +kernel
theorem f_22_41 : mFetch 22 41 = some (.goto (-39), 3, [2]) := by decide +kernel
theorem f_22_44 : mFetch 22 44 = some (.iconst 0, 1, []) := by decide +kernel
theorem f_22_45 : mFetch 22 45 = some (.ireturn, 1, [2]) := by decide +kernel
theorem b_22_0 {d : Nat} {a0 : Nat} {w : MW} : mX d 22 0 [.ref a0, mJ] [] w = mX d 22 2 [.ref a0, .int (nI 0)] [] w := by
  refine Eq.trans (X_iconst f_22_0 kc_i_0) ?_
  refine Eq.trans (X_istore_n (L' := [.ref a0, .int (nI 0)]) f_22_1 (Nat.le_of_ble_eq_true rfl) rfl) ?_
  exact mX_mask rfl
theorem e_22 {d : Nat} {a0 : Nat} {w : MW} : mK d 22 [.ref a0] w = mX d 22 0 [.ref a0, mJ] [] w := rfl
theorem b_22_2 {d : Nat} {a0 : Nat} {x1 : Int32} {w : MW} (h0 : mTg w a0 = 0) (h1 : mR w a0 0 = some (gR w a0 0)) (h2 : mTg w (gR w a0 0) = 8) : mX (d + 1) 22 2 [.ref a0, .int x1] [] w = mThen (mK d 85 [.ref (gR w a0 0), .int (nI 5)] w) (fun v w9 => mX (d + 1) 22 11 [.ref a0, .int x1] (v.toList ++ [.int x1]) w9) := by
  refine Eq.trans (X_st f_22_2 rfl rfl) ?_
  refine Eq.trans (X_st f_22_3 rfl rfl) ?_
  refine Eq.trans (X_getR f_22_4 h0 rfl h1) ?_
  refine Eq.trans (X_iconst f_22_7 kc_i_5) ?_
  refine Eq.trans (X_call f_22_8 (by decide) rfl rfl rfl rfl rfl rfl (Nat.le_of_ble_eq_true rfl) (Nat.le_of_ble_eq_true rfl) (decide_eq_true h2) (Nat.le_of_ble_eq_true rfl)) ?_
  exact mThen_eq fun v w9 => mX_mask rfl
theorem b_22_11 {d : Nat} {a0 : Nat} {x1 : Int32} {y0 : Int32} {y1 : Int32} {w : MW} : mX d 22 11 [.ref a0, .int x1] [.int y0, .int y1] w = (if y0 ≤ y1 then mX d 22 44 [mJ, mJ] [] w else mX d 22 14 [.ref a0, .int x1] [] w) := by
  refine Eq.trans (X_br f_22_11 rfl rfl) ?_
  exact mIte_eq (mX_mask rfl) (mX_mask rfl)
theorem b_22_14 {d : Nat} {a0 : Nat} {x1 : Int32} {w : MW} (h0 : mTg w a0 = 0) : mX (d + 1) 22 14 [.ref a0, .int x1] [] w = mThen (mK d 19 [.ref a0, .int x1, .int (nI 17)] w) (fun v w9 => mX (d + 1) 22 21 [.ref a0, .int x1] (v.toList ++ []) w9) := by
  refine Eq.trans (X_st f_22_14 rfl rfl) ?_
  refine Eq.trans (X_st f_22_15 rfl rfl) ?_
  refine Eq.trans (X_bipush f_22_16 kc_b_17) ?_
  refine Eq.trans (X_call f_22_18 (by decide) rfl rfl rfl rfl rfl rfl (Nat.le_of_ble_eq_true rfl) (Nat.le_of_ble_eq_true rfl) (decide_eq_true h0) (Nat.le_of_ble_eq_true rfl)) ?_
  exact mThen_eq fun v w9 => mX_mask rfl
theorem b_22_21 {d : Nat} {a0 : Nat} {x1 : Int32} {y0 : Int32} {w : MW} : mX d 22 21 [.ref a0, .int x1] [.int y0] w = (if y0 = nI 0 then mX d 22 38 [.ref a0, .int x1] [] w else mX d 22 24 [.ref a0, .int x1] [] w) := by
  refine Eq.trans (X_br f_22_21 rfl rfl) ?_
  exact mIte_eq (mX_mask rfl) (mX_mask rfl)
theorem b_22_24 {d : Nat} {a0 : Nat} {x1 : Int32} {w : MW} (h0 : mTg w a0 = 0) (h1 : mR w a0 1 = some (gR w a0 1)) (h2 : mTg w (gR w a0 1) = 3) : mX (d + 1) 22 24 [.ref a0, .int x1] [] w = mThen (mK d 48 [.ref (gR w a0 1), .ref a0, .int x1] w) (fun v w9 => mX (d + 1) 22 33 [.ref a0, .int x1] (v.toList ++ []) w9) := by
  refine Eq.trans (X_st f_22_24 rfl rfl) ?_
  refine Eq.trans (X_getR f_22_25 h0 rfl h1) ?_
  refine Eq.trans (X_st f_22_28 rfl rfl) ?_
  refine Eq.trans (X_st f_22_29 rfl rfl) ?_
  refine Eq.trans (X_call f_22_30 (by decide) rfl rfl rfl rfl rfl rfl (Nat.le_of_ble_eq_true rfl) (Nat.le_of_ble_eq_true rfl) (decide_eq_true h2) (Nat.le_of_ble_eq_true rfl)) ?_
  exact mThen_eq fun v w9 => mX_mask rfl
theorem b_22_33 {d : Nat} {a0 : Nat} {x1 : Int32} {y0 : Int32} {w : MW} : mX d 22 33 [.ref a0, .int x1] [.int y0] w = (if y0 = nI 0 then mX d 22 38 [.ref a0, .int x1] [] w else mX d 22 36 [mJ, mJ] [] w) := by
  refine Eq.trans (X_br f_22_33 rfl rfl) ?_
  exact mIte_eq (mX_mask rfl) (mX_mask rfl)
theorem b_22_36 {d : Nat} {w : MW} : mX d 22 36 [mJ, mJ] [] w = some (.inl (some (.int (nI 1))), w) := by
  refine Eq.trans (X_iconst f_22_36 kc_i_1) ?_
  exact X_ireturn f_22_37 rfl
theorem b_22_38 {d : Nat} {a0 : Nat} {x1 : Int32} {w : MW} : mX d 22 38 [.ref a0, .int x1] [] w = mX d 22 2 [.ref a0, .int (x1 + (nI 1))] [] w := by
  refine Eq.trans (X_iinc f_22_38 kc_i_1 rfl rfl) ?_
  refine Eq.trans (X_st f_22_41 rfl rfl) ?_
  exact mX_mask rfl
theorem b_22_44 {d : Nat} {w : MW} : mX d 22 44 [mJ, mJ] [] w = some (.inl (some (.int (nI 0))), w) := by
  refine Eq.trans (X_iconst f_22_44 kc_i_0) ?_
  exact X_ireturn f_22_45 rfl
/-! BeeTurnpike$Bee decideAppeal (LBeeTurnpike$Speller;Z)V -/
theorem f_23_0 : mFetch 23 0 = some (.iload_n 2, 1, []) := by decide +kernel
theorem f_23_1 : mFetch 23 1 = some (.ifCond .eq 21, 3, [22]) := by decide +kernel
theorem f_23_4 : mFetch 23 4 = some (.aload_n 1, 1, []) := by decide +kernel
theorem f_23_5 : mFetch 23 5 = some (.dup, 1, []) := by decide +kernel
theorem f_23_6 : mFetch 23 6 = some (.getfield 119, 3, [4, 5, 1, 16]) := by decide +kernel
theorem f_23_9 : mFetch 23 9 = some (.iconst 1, 1, []) := by decide +kernel
theorem f_23_10 : mFetch 23 10 = some (.iadd, 1, []) := by decide +kernel
theorem f_23_11 : mFetch 23 11 = some (.putfield 119, 3, [4, 5, 1, 16]) := by decide +kernel
theorem f_23_14 : mFetch 23 14 = some (.aload_n 0, 1, []) := by decide +kernel
theorem f_23_15 : mFetch 23 15 = some (.iconst 4, 1, []) := by decide +kernel
theorem f_23_16 : mFetch 23 16 = some (.invokevirtual 164, 3, [16, 2, 2, 0, 710, 712, 13]) := by decide +kernel
theorem f_23_19 : mFetch 23 19 = some (.goto 13, 3, [32]) := by decide +kernel
theorem f_23_22 : mFetch 23 22 = some (.aload_n 1, 1, []) := by decide +kernel
theorem f_23_23 : mFetch 23 23 = some (.iconst 0, 1, []) := by decide +kernel
theorem f_23_24 : mFetch 23 24 = some (.putfield 205, 3, [4, 4, 1, 27]) := by decide +kernel
theorem f_23_27 : mFetch 23 27 = some (.aload_n 0, 1, []) := by decide +kernel
theorem f_23_28 : mFetch 23 28 = some (.iconst 5, 1, []) := by decide +kernel
theorem f_23_29 : mFetch 23 29 = some (.invokevirtual 164, 3, [16, 2, 2, 0, 710, 712, 13]) := by decide +kernel
theorem f_23_32 : mFetch 23 32 = some (.return_, 1, []) := by decide +kernel
theorem b_23_0 {d : Nat} {a0 : Nat} {a1 : Nat} {x2 : Int32} {w : MW} : mX d 23 0 [.ref a0, .ref a1, .int x2] [] w = (if x2 = nI 0 then mX d 23 22 [.ref a0, .ref a1, mJ] [] w else mX d 23 4 [.ref a0, .ref a1, mJ] [] w) := by
  refine Eq.trans (X_st f_23_0 rfl rfl) ?_
  refine Eq.trans (X_br f_23_1 rfl rfl) ?_
  exact mIte_eq (mX_mask rfl) (mX_mask rfl)
theorem e_23 {d : Nat} {a0 : Nat} {a1 : Nat} {x2 : Int32} {w : MW} : mK d 23 [.ref a0, .ref a1, .int x2] w = mX d 23 0 [.ref a0, .ref a1, .int x2] [] w := rfl
theorem b_23_4 {d : Nat} {a0 : Nat} {a1 : Nat} {w : MW} (h0 : mTg w a1 = 4) (h1 : mE ≤ a1) (h2 : mTg (wI w a1 5 ((mI w a1 5) + (nI 1))) a0 = 0) : mX (d + 1) 23 4 [.ref a0, .ref a1, mJ] [] w = mThen (mK d 16 [.ref a0, .int (nI 4)] (wI w a1 5 ((mI w a1 5) + (nI 1)))) (fun v w9 => mX (d + 1) 23 19 [mJ, mJ, mJ] (v.toList ++ []) w9) := by
  refine Eq.trans (X_st f_23_4 rfl rfl) ?_
  refine Eq.trans (X_dup f_23_5 rfl) ?_
  refine Eq.trans (X_getI f_23_6 h0 rfl) ?_
  refine Eq.trans (X_iconst f_23_9 kc_i_1) ?_
  refine Eq.trans (X_st f_23_10 rfl rfl) ?_
  refine Eq.trans (X_putI f_23_11 h0 h1 rfl rfl) ?_
  refine Eq.trans (X_st f_23_14 rfl rfl) ?_
  refine Eq.trans (X_iconst f_23_15 kc_i_4) ?_
  refine Eq.trans (X_call f_23_16 (by decide) rfl rfl rfl rfl rfl rfl (Nat.le_of_ble_eq_true rfl) (Nat.le_of_ble_eq_true rfl) (decide_eq_true h2) (Nat.le_of_ble_eq_true rfl)) ?_
  exact mThen_eq fun v w9 => mX_mask rfl
theorem b_23_19 {d : Nat} {w : MW} : mX d 23 19 [mJ, mJ, mJ] [] w = mX d 23 32 [mJ, mJ, mJ] [] w := by
  refine Eq.trans (X_st f_23_19 rfl rfl) ?_
  exact mX_mask rfl
theorem b_23_22 {d : Nat} {a0 : Nat} {a1 : Nat} {w : MW} (h0 : mTg w a1 = 4) (h1 : mE ≤ a1) (h2 : mTg (wI w a1 4 (nI 0)) a0 = 0) : mX (d + 1) 23 22 [.ref a0, .ref a1, mJ] [] w = mThen (mK d 16 [.ref a0, .int (nI 5)] (wI w a1 4 (nI 0))) (fun v w9 => mX (d + 1) 23 32 [mJ, mJ, mJ] (v.toList ++ []) w9) := by
  refine Eq.trans (X_st f_23_22 rfl rfl) ?_
  refine Eq.trans (X_iconst f_23_23 kc_i_0) ?_
  refine Eq.trans (X_putI f_23_24 h0 h1 rfl rfl) ?_
  refine Eq.trans (X_st f_23_27 rfl rfl) ?_
  refine Eq.trans (X_iconst f_23_28 kc_i_5) ?_
  refine Eq.trans (X_call f_23_29 (by decide) rfl rfl rfl rfl rfl rfl (Nat.le_of_ble_eq_true rfl) (Nat.le_of_ble_eq_true rfl) (decide_eq_true h2) (Nat.le_of_ble_eq_true rfl)) ?_
  exact mThen_eq fun v w9 => mX_mask rfl
theorem b_23_32 {d : Nat} {w : MW} : mX d 23 32 [mJ, mJ, mJ] [] w = some (.inl none, w) := by
  exact X_ret f_23_32 rfl rfl
/-! BeeTurnpike$Bee writeDown (LBeeTurnpike$Speller;IZ)V -/
theorem f_24_0 : mFetch 24 0 = some (.aload_n 0, 1, []) := by decide +kernel
theorem f_24_1 : mFetch 24 1 = some (.getfield 33, 3, [0, 5, 0, 400]) := by decide +kernel
theorem f_24_4 : mFetch 24 4 = some (.iload_n 2, 1, []) := by decide +kernel
theorem f_24_5 : mFetch 24 5 = some (.aload_n 0, 1, []) := by decide +kernel
theorem f_24_6 : mFetch 24 6 = some (.getfield 33, 3, [0, 5, 0, 400]) := by decide +kernel
theorem f_24_9 : mFetch 24 9 = some (.iload_n 2, 1, []) := by decide +kernel
theorem f_24_10 : mFetch 24 10 = some (.invokestatic 108, 3, [123, 2, 1, 0, 14, 559]) := by decide +kernel
theorem f_24_13 : mFetch 24 13 = some (.iconst 1, 1, []) := by decide +kernel
theorem f_24_14 : mFetch 24 14 = some (.iadd, 1, []) := by decide +kernel
theorem f_24_15 : mFetch 24 15 = some (.invokestatic 168, 3, [124, 3, 1, 0, 24, 689]) := by decide +kernel
theorem f_24_18 : mFetch 24 18 = some (.iload_n 3, 1, []) := by decide +kernel
theorem f_24_19 : mFetch 24 19 = some (.ifCond .eq 42, 3, [61]) := by decide +kernel
theorem f_24_22 : mFetch 24 22 = some (.aload_n 0, 1, []) := by decide +kernel
theorem f_24_23 : mFetch 24 23 = some (.getfield 36, 3, [0, 6, 0, 402]) := by decide +kernel
theorem f_24_26 : mFetch 24 26 = some (.iload_n 2, 1, []) := by decide +kernel
theorem f_24_27 : mFetch 24 27 = some (.aload_n 0, 1, []) := by decide +kernel
theorem f_24_28 : mFetch 24 28 = some (.getfield 36, 3, [0, 6, 0, 402]) := by decide +kernel
theorem f_24_31 : mFetch 24 31 = some (.iload_n 2, 1, []) := by decide +kernel
theorem f_24_32 : mFetch 24 32 = some (.invokestatic 108, 3, [123, 2, 1, 0, 14, 559]) := by decide +kernel
theorem f_24_35 : mFetch 24 35 = some (.iconst 1, 1, []) := by decide +kernel
theorem f_24_36 : mFetch 24 36 = some (.iadd, 1, []) := by decide +kernel
theorem f_24_37 : mFetch 24 37 = some (.invokestatic 168, 3, [124, 3, 1, 0, 24, 689]) := by decide +kernel
theorem f_24_40 : mFetch 24 40 = some (.aload_n 1, 1, []) := by decide +kernel
theorem f_24_41 : mFetch 24 41 = some (.dup, 1, []) := by decide +kernel
theorem f_24_42 : mFetch 24 42 = some (.getfield 222, 3, [4, 9, 1, 29]) := by decide +kernel
theorem f_24_45 : mFetch 24 45 = some (.iconst 1, 1, []) := by decide +kernel
theorem f_24_46 : mFetch 24 46 = some (.iadd, 1, []) := by decide +kernel
theorem f_24_47 : mFetch 24 47 = some (.putfield 222, 3, [4, 9, 1, 29]) := by decide +kernel
theorem f_24_50 : mFetch 24 50 = some (.aload_n 0, 1, []) := by decide +kernel
theorem f_24_51 : mFetch 24 51 = some (.iconst 1, 1, []) := by decide +kernel
theorem f_24_52 : mFetch 24 52 = some (.putfield 62, 3, [0, 13, 0, 415]) := by decide +kernel
theorem f_24_55 : mFetch 24 55 = some (.aload_n 0, 1, []) := by decide +kernel
theorem f_24_56 : mFetch 24 56 = some (.iconst 0, 1, []) := by decide +kernel
theorem f_24_57 : mFetch 24 57 = some (.invokevirtual 164, 3, [16, 2, 2, 0, 710, 712, 13]) := by decide +kernel
theorem f_24_60 : mFetch 24 60 = some (.return_, 1, []) := by decide +kernel
theorem f_24_61 : mFetch 24 61 = some (.aload_n 0, 1, []) := by decide +kernel
theorem f_24_62 : mFetch 24 62 = some (.iconst 1, 1, []) := by decide +kernel
theorem f_24_63 : mFetch 24 63 = some (.invokevirtual 164, 3, [16, 2, 2, 0, 710, 712, 13]) := by decide +kernel
theorem f_24_66 : mFetch 24 66 = some (.aload_n 1, 1, []) := by decide +kernel
theorem f_24_67 : mFetch 24 67 = some (.dup, 1, []) := by decide +kernel
theorem f_24_68 : mFetch 24 68 = some (.getfield 225, 3, [4, 10, 1, 30]) := by decide +kernel
theorem f_24_71 : mFetch 24 71 = some (.iconst 1, 1, []) := by decide +kernel
theorem f_24_72 : mFetch 24 72 = some (.iadd, 1, []) := by decide +kernel
theorem f_24_73 : mFetch 24 73 = some (.putfield 225, 3, [4, 10, 1, 30]) := by decide +kernel
theorem f_24_76 : mFetch 24 76 = some (.aload_n 1, 1, []) := by decide +kernel
theorem f_24_77 : mFetch 24 77 = some (.dup, 1, []) := by decide +kernel
theorem f_24_78 : mFetch 24 78 = some (.getfield 228, 3, [4, 6, 1, 31]) := by decide +kernel
theorem f_24_81 : mFetch 24 81 = some (.iconst 1, 1, []) := by decide +kernel
theorem f_24_82 : mFetch 24 82 = some (.iadd, 1, []) := by decide +kernel
theorem f_24_83 : mFetch 24 83 = some (.putfield 228, 3, [4, 6, 1, 31]) := by decide +kernel
theorem f_24_86 : mFetch 24 86 = some (.aload_n 1, 1, []) := by decide +kernel
theorem f_24_87 : mFetch 24 87 = some (.getfield 228, 3, [4, 6, 1, 31]) := by decide +kernel
theorem f_24_90 : mFetch 24 90 = some (.iconst 2, 1, []) := by decide +kernel
theorem f_24_91 : mFetch 24 91 = some (.if_icmp .lt 13, 3, [104]) := by decide +kernel
theorem f_24_94 : mFetch 24 94 = some (.aload_n 1, 1, []) := by decide +kernel
theorem f_24_95 : mFetch 24 95 = some (.iconst 0, 1, []) := by decide +kernel
theorem f_24_96 : mFetch 24 96 = some (.putfield 112, 3, [4, 2, 1, 15]) := by decide +kernel
theorem f_24_99 : mFetch 24 99 = some (.aload_n 1, 1, []) := by decide +kernel
theorem f_24_100 : mFetch 24 100 = some (.iconst 1, 1, []) := by decide +kernel
theorem f_24_101 : mFetch 24 101 = some (.putfield 231, 3, [4, 3, 1, 32]) := by decide +kernel
theorem f_24_104 : mFetch 24 104 = some (.return_, 1, []) := by decide +kernel
theorem b_24_0 {d : Nat} {a0 : Nat} {a1 : Nat} {x2 : Int32} {x3 : Int32} {w : MW} (h0 : mTg w a0 = 0) (h1 : mR w a0 5 = some (gR w a0 5)) : mX (d + 1) 24 0 [.ref a0, .ref a1, .int x2, .int x3] [] w = mThen (mK d 123 [.ref (gR w a0 5), .int x2] w) (fun v w9 => mX (d + 1) 24 13 [.ref a0, .ref a1, .int x2, .int x3] (v.toList ++ [.int x2, .ref (gR w a0 5)]) w9) := by
  refine Eq.trans (X_st f_24_0 rfl rfl) ?_
  refine Eq.trans (X_getR f_24_1 h0 rfl h1) ?_
  refine Eq.trans (X_st f_24_4 rfl rfl) ?_
  refine Eq.trans (X_st f_24_5 rfl rfl) ?_
  refine Eq.trans (X_getR f_24_6 h0 rfl h1) ?_
  refine Eq.trans (X_st f_24_9 rfl rfl) ?_
  refine Eq.trans (X_call f_24_10 (by decide) rfl rfl rfl rfl rfl rfl (Nat.le_of_ble_eq_true rfl) (Nat.le_of_ble_eq_true rfl) rfl (Nat.le_of_ble_eq_true rfl)) ?_
  exact mThen_eq fun v w9 => mX_mask rfl
theorem e_24 {d : Nat} {a0 : Nat} {a1 : Nat} {x2 : Int32} {x3 : Int32} {w : MW} : mK d 24 [.ref a0, .ref a1, .int x2, .int x3] w = mX d 24 0 [.ref a0, .ref a1, .int x2, .int x3] [] w := rfl
theorem b_24_13 {d : Nat} {a0 : Nat} {a1 : Nat} {x2 : Int32} {x3 : Int32} {y0 : Int32} {y1 : Int32} {b2 : Nat} {w : MW} : mX (d + 1) 24 13 [.ref a0, .ref a1, .int x2, .int x3] [.int y0, .int y1, .ref b2] w = mThen (mK d 124 [.ref b2, .int y1, .int (y0 + (nI 1))] w) (fun v w9 => mX (d + 1) 24 18 [.ref a0, .ref a1, .int x2, .int x3] (v.toList ++ []) w9) := by
  refine Eq.trans (X_iconst f_24_13 kc_i_1) ?_
  refine Eq.trans (X_st f_24_14 rfl rfl) ?_
  refine Eq.trans (X_call f_24_15 (by decide) rfl rfl rfl rfl rfl rfl (Nat.le_of_ble_eq_true rfl) (Nat.le_of_ble_eq_true rfl) rfl (Nat.le_of_ble_eq_true rfl)) ?_
  exact mThen_eq fun v w9 => mX_mask rfl
theorem b_24_18 {d : Nat} {a0 : Nat} {a1 : Nat} {x2 : Int32} {x3 : Int32} {w : MW} : mX d 24 18 [.ref a0, .ref a1, .int x2, .int x3] [] w = (if x3 = nI 0 then mX d 24 61 [.ref a0, .ref a1, mJ, mJ] [] w else mX d 24 22 [.ref a0, .ref a1, .int x2, mJ] [] w) := by
  refine Eq.trans (X_st f_24_18 rfl rfl) ?_
  refine Eq.trans (X_br f_24_19 rfl rfl) ?_
  exact mIte_eq (mX_mask rfl) (mX_mask rfl)
theorem b_24_22 {d : Nat} {a0 : Nat} {a1 : Nat} {x2 : Int32} {w : MW} (h0 : mTg w a0 = 0) (h1 : mR w a0 6 = some (gR w a0 6)) : mX (d + 1) 24 22 [.ref a0, .ref a1, .int x2, mJ] [] w = mThen (mK d 123 [.ref (gR w a0 6), .int x2] w) (fun v w9 => mX (d + 1) 24 35 [.ref a0, .ref a1, mJ, mJ] (v.toList ++ [.int x2, .ref (gR w a0 6)]) w9) := by
  refine Eq.trans (X_st f_24_22 rfl rfl) ?_
  refine Eq.trans (X_getR f_24_23 h0 rfl h1) ?_
  refine Eq.trans (X_st f_24_26 rfl rfl) ?_
  refine Eq.trans (X_st f_24_27 rfl rfl) ?_
  refine Eq.trans (X_getR f_24_28 h0 rfl h1) ?_
  refine Eq.trans (X_st f_24_31 rfl rfl) ?_
  refine Eq.trans (X_call f_24_32 (by decide) rfl rfl rfl rfl rfl rfl (Nat.le_of_ble_eq_true rfl) (Nat.le_of_ble_eq_true rfl) rfl (Nat.le_of_ble_eq_true rfl)) ?_
  exact mThen_eq fun v w9 => mX_mask rfl
theorem b_24_35 {d : Nat} {a0 : Nat} {a1 : Nat} {y0 : Int32} {y1 : Int32} {b2 : Nat} {w : MW} : mX (d + 1) 24 35 [.ref a0, .ref a1, mJ, mJ] [.int y0, .int y1, .ref b2] w = mThen (mK d 124 [.ref b2, .int y1, .int (y0 + (nI 1))] w) (fun v w9 => mX (d + 1) 24 40 [.ref a0, .ref a1, mJ, mJ] (v.toList ++ []) w9) := by
  refine Eq.trans (X_iconst f_24_35 kc_i_1) ?_
  refine Eq.trans (X_st f_24_36 rfl rfl) ?_
  refine Eq.trans (X_call f_24_37 (by decide) rfl rfl rfl rfl rfl rfl (Nat.le_of_ble_eq_true rfl) (Nat.le_of_ble_eq_true rfl) rfl (Nat.le_of_ble_eq_true rfl)) ?_
  exact mThen_eq fun v w9 => mX_mask rfl
theorem b_24_40 {d : Nat} {a0 : Nat} {a1 : Nat} {w : MW} (h0 : mTg w a1 = 4) (h1 : mE ≤ a1) (h2 : mTg (wI w a1 9 ((mI w a1 9) + (nI 1))) a0 = 0) (h3 : mE ≤ a0) (h4 : mTg (wI (wI w a1 9 ((mI w a1 9) + (nI 1))) a0 13 (nI 1)) a0 = 0) : mX (d + 1) 24 40 [.ref a0, .ref a1, mJ, mJ] [] w = mThen (mK d 16 [.ref a0, .int (nI 0)] (wI (wI w a1 9 ((mI w a1 9) + (nI 1))) a0 13 (nI 1))) (fun v w9 => mX (d + 1) 24 60 [mJ, mJ, mJ, mJ] (v.toList ++ []) w9) := by
  refine Eq.trans (X_st f_24_40 rfl rfl) ?_
  refine Eq.trans (X_dup f_24_41 rfl) ?_
  refine Eq.trans (X_getI f_24_42 h0 rfl) ?_
  refine Eq.trans (X_iconst f_24_45 kc_i_1) ?_
  refine Eq.trans (X_st f_24_46 rfl rfl) ?_
  refine Eq.trans (X_putI f_24_47 h0 h1 rfl rfl) ?_
  refine Eq.trans (X_st f_24_50 rfl rfl) ?_
  refine Eq.trans (X_iconst f_24_51 kc_i_1) ?_
  refine Eq.trans (X_putI f_24_52 h2 h3 rfl rfl) ?_
  refine Eq.trans (X_st f_24_55 rfl rfl) ?_
  refine Eq.trans (X_iconst f_24_56 kc_i_0) ?_
  refine Eq.trans (X_call f_24_57 (by decide) rfl rfl rfl rfl rfl rfl (Nat.le_of_ble_eq_true rfl) (Nat.le_of_ble_eq_true rfl) (decide_eq_true h4) (Nat.le_of_ble_eq_true rfl)) ?_
  exact mThen_eq fun v w9 => mX_mask rfl
theorem b_24_60 {d : Nat} {w : MW} : mX d 24 60 [mJ, mJ, mJ, mJ] [] w = some (.inl none, w) := by
  exact X_ret f_24_60 rfl rfl
theorem b_24_61 {d : Nat} {a0 : Nat} {a1 : Nat} {w : MW} (h0 : mTg w a0 = 0) : mX (d + 1) 24 61 [.ref a0, .ref a1, mJ, mJ] [] w = mThen (mK d 16 [.ref a0, .int (nI 1)] w) (fun v w9 => mX (d + 1) 24 66 [mJ, .ref a1, mJ, mJ] (v.toList ++ []) w9) := by
  refine Eq.trans (X_st f_24_61 rfl rfl) ?_
  refine Eq.trans (X_iconst f_24_62 kc_i_1) ?_
  refine Eq.trans (X_call f_24_63 (by decide) rfl rfl rfl rfl rfl rfl (Nat.le_of_ble_eq_true rfl) (Nat.le_of_ble_eq_true rfl) (decide_eq_true h0) (Nat.le_of_ble_eq_true rfl)) ?_
  exact mThen_eq fun v w9 => mX_mask rfl
theorem b_24_66 {d : Nat} {a1 : Nat} {w : MW} (h0 : mTg w a1 = 4) (h1 : mE ≤ a1) (h2 : mTg (wI w a1 10 ((mI w a1 10) + (nI 1))) a1 = 4) (h3 : mTg (wI (wI w a1 10 ((mI w a1 10) + (nI 1))) a1 6 ((mI (wI w a1 10 ((mI w a1 10) + (nI 1))) a1 6) + (nI 1))) a1 = 4) : mX d 24 66 [mJ, .ref a1, mJ, mJ] [] w = (if (mI (wI (wI w a1 10 ((mI w a1 10) + (nI 1))) a1 6 ((mI (wI w a1 10 ((mI w a1 10) + (nI 1))) a1 6) + (nI 1))) a1 6) < (nI 2) then mX d 24 104 [mJ, mJ, mJ, mJ] [] (wI (wI w a1 10 ((mI w a1 10) + (nI 1))) a1 6 ((mI (wI w a1 10 ((mI w a1 10) + (nI 1))) a1 6) + (nI 1))) else mX d 24 94 [mJ, .ref a1, mJ, mJ] [] (wI (wI w a1 10 ((mI w a1 10) + (nI 1))) a1 6 ((mI (wI w a1 10 ((mI w a1 10) + (nI 1))) a1 6) + (nI 1)))) := by
  refine Eq.trans (X_st f_24_66 rfl rfl) ?_
  refine Eq.trans (X_dup f_24_67 rfl) ?_
  refine Eq.trans (X_getI f_24_68 h0 rfl) ?_
  refine Eq.trans (X_iconst f_24_71 kc_i_1) ?_
  refine Eq.trans (X_st f_24_72 rfl rfl) ?_
  refine Eq.trans (X_putI f_24_73 h0 h1 rfl rfl) ?_
  refine Eq.trans (X_st f_24_76 rfl rfl) ?_
  refine Eq.trans (X_dup f_24_77 rfl) ?_
  refine Eq.trans (X_getI f_24_78 h2 rfl) ?_
  refine Eq.trans (X_iconst f_24_81 kc_i_1) ?_
  refine Eq.trans (X_st f_24_82 rfl rfl) ?_
  refine Eq.trans (X_putI f_24_83 h2 h1 rfl rfl) ?_
  refine Eq.trans (X_st f_24_86 rfl rfl) ?_
  refine Eq.trans (X_getI f_24_87 h3 rfl) ?_
  refine Eq.trans (X_iconst f_24_90 kc_i_2) ?_
  refine Eq.trans (X_br f_24_91 rfl rfl) ?_
  exact mIte_eq (mX_mask rfl) (mX_mask rfl)
theorem b_24_94 {d : Nat} {a1 : Nat} {w : MW} (h0 : mTg w a1 = 4) (h1 : mE ≤ a1) (h2 : mTg (wI w a1 2 (nI 0)) a1 = 4) : mX d 24 94 [mJ, .ref a1, mJ, mJ] [] w = mX d 24 104 [mJ, mJ, mJ, mJ] [] (wI (wI w a1 2 (nI 0)) a1 3 (nI 1)) := by
  refine Eq.trans (X_st f_24_94 rfl rfl) ?_
  refine Eq.trans (X_iconst f_24_95 kc_i_0) ?_
  refine Eq.trans (X_putI f_24_96 h0 h1 rfl rfl) ?_
  refine Eq.trans (X_st f_24_99 rfl rfl) ?_
  refine Eq.trans (X_iconst f_24_100 kc_i_1) ?_
  refine Eq.trans (X_putI f_24_101 h2 h1 rfl rfl) ?_
  exact mX_mask rfl
theorem b_24_104 {d : Nat} {w : MW} : mX d 24 104 [mJ, mJ, mJ, mJ] [] w = some (.inl none, w) := by
  exact X_ret f_24_104 rfl rfl
/-! BeeTurnpike$Bee endTurn ()V -/
theorem f_25_0 : mFetch 25 0 = some (.aload_n 0, 1, []) := by decide +kernel
theorem f_25_1 : mFetch 25 1 = some (.dup, 1, []) := by decide +kernel
theorem f_25_2 : mFetch 25 2 = some (.getfield 47, 3, [0, 7, 0, 405]) := by decide +kernel
theorem f_25_5 : mFetch 25 5 = some (.iconst 1, 1, []) := by decide +kernel
theorem f_25_6 : mFetch 25 6 = some (.iadd, 1, []) := by decide +kernel
theorem f_25_7 : mFetch 25 7 = some (.putfield 47, 3, [0, 7, 0, 405]) := by decide +kernel
theorem f_25_10 : mFetch 25 10 = some (.aload_n 0, 1, []) := by decide +kernel
theorem f_25_11 : mFetch 25 11 = some (.iconst 0, 1, []) := by decide +kernel
theorem f_25_12 : mFetch 25 12 = some (.putfield 59, 3, [0, 12, 0, 414]) := by decide +kernel
theorem f_25_15 : mFetch 25 15 = some (.aload_n 0, 1, []) := by decide +kernel
theorem f_25_16 : mFetch 25 16 = some (.aload_n 0, 1, []) := by decide +kernel
theorem f_25_17 : mFetch 25 17 = some (.aload_n 0, 1, []) := by decide +kernel
theorem f_25_18 : mFetch 25 18 = some (.getfield 39, 3, [0, 11, 0, 411]) := by decide +kernel
theorem f_25_21 : mFetch 25 21 = some (.iconst 1, 1, []) := by decide +kernel
theorem f_25_22 : mFetch 25 22 = some (.iadd, 1, []) := by decide +kernel
theorem f_25_23 : mFetch 25 23 = some (.invokevirtual 90, 3, [7, 2, 2, 0, 745, 747, 19]) := by decide +kernel
theorem f_25_26 : mFetch 25 26 = some (.putfield 39, 3, [0, 11, 0, 411]) := by decide +kernel
theorem f_25_29 : mFetch 25 29 = some (.aload_n 0, 1, []) := by decide +kernel
theorem f_25_30 : mFetch 25 30 = some (.getfield 39, 3, [0, 11, 0, 411]) := by decide +kernel
theorem f_25_33 : mFetch 25 33 = some (.ifCond .ge 7, 3, [40]) := by decide +kernel
theorem f_25_36 : mFetch 25 36 = some (.aload_n 0, 1, []) := by decide +kernel
theorem f_25_37 : mFetch 25 37 = some (.invokevirtual 234, 3, [26, 1, 2, 0, 749, 751, 20]) := by decide +kernel
theorem f_25_40 : mFetch 25 40 = some (.return_, 1, []) := by decide +kernel
theorem b_25_0 {d : Nat} {a0 : Nat} {w : MW} (h0 : mTg w a0 = 0) (h1 : mE ≤ a0) (h2 : mTg (wI w a0 7 ((mI w a0 7) + (nI 1))) a0 = 0) (h3 : mTg (wI (wI w a0 7 ((mI w a0 7) + (nI 1))) a0 12 (nI 0)) a0 = 0) : mX (d + 1) 25 0 [.ref a0] [] w = mThen (mK d 7 [.ref a0, .int ((mI (wI (wI w a0 7 ((mI w a0 7) + (nI 1))) a0 12 (nI 0)) a0 11) + (nI 1))] (wI (wI w a0 7 ((mI w a0 7) + (nI 1))) a0 12 (nI 0))) (fun v w9 => mX (d + 1) 25 26 [.ref a0] (v.toList ++ [.ref a0]) w9) := by
  refine Eq.trans (X_st f_25_0 rfl rfl) ?_
  refine Eq.trans (X_dup f_25_1 rfl) ?_
  refine Eq.trans (X_getI f_25_2 h0 rfl) ?_
  refine Eq.trans (X_iconst f_25_5 kc_i_1) ?_
  refine Eq.trans (X_st f_25_6 rfl rfl) ?_
  refine Eq.trans (X_putI f_25_7 h0 h1 rfl rfl) ?_
  refine Eq.trans (X_st f_25_10 rfl rfl) ?_
  refine Eq.trans (X_iconst f_25_11 kc_i_0) ?_
  refine Eq.trans (X_putI f_25_12 h2 h1 rfl rfl) ?_
  refine Eq.trans (X_st f_25_15 rfl rfl) ?_
  refine Eq.trans (X_st f_25_16 rfl rfl) ?_
  refine Eq.trans (X_st f_25_17 rfl rfl) ?_
  refine Eq.trans (X_getI f_25_18 h3 rfl) ?_
  refine Eq.trans (X_iconst f_25_21 kc_i_1) ?_
  refine Eq.trans (X_st f_25_22 rfl rfl) ?_
  refine Eq.trans (X_call f_25_23 (by decide) rfl rfl rfl rfl rfl rfl (Nat.le_of_ble_eq_true rfl) (Nat.le_of_ble_eq_true rfl) (decide_eq_true h3) (Nat.le_of_ble_eq_true rfl)) ?_
  exact mThen_eq fun v w9 => mX_mask rfl
theorem e_25 {d : Nat} {a0 : Nat} {w : MW} : mK d 25 [.ref a0] w = mX d 25 0 [.ref a0] [] w := rfl
theorem b_25_26 {d : Nat} {a0 : Nat} {y0 : Int32} {b1 : Nat} {w : MW} (h0 : mTg w b1 = 0) (h1 : mE ≤ b1) (h2 : mTg (wI w b1 11 y0) a0 = 0) : mX d 25 26 [.ref a0] [.int y0, .ref b1] w = (if nI 0 ≤ (mI (wI w b1 11 y0) a0 11) then mX d 25 40 [mJ] [] (wI w b1 11 y0) else mX d 25 36 [.ref a0] [] (wI w b1 11 y0)) := by
  refine Eq.trans (X_putI f_25_26 h0 h1 rfl rfl) ?_
  refine Eq.trans (X_st f_25_29 rfl rfl) ?_
  refine Eq.trans (X_getI f_25_30 h2 rfl) ?_
  refine Eq.trans (X_br f_25_33 rfl rfl) ?_
  exact mIte_eq (mX_mask rfl) (mX_mask rfl)
theorem b_25_36 {d : Nat} {a0 : Nat} {w : MW} (h0 : mTg w a0 = 0) : mX (d + 1) 25 36 [.ref a0] [] w = mThen (mK d 26 [.ref a0] w) (fun v w9 => mX (d + 1) 25 40 [mJ] (v.toList ++ []) w9) := by
  refine Eq.trans (X_st f_25_36 rfl rfl) ?_
  refine Eq.trans (X_call f_25_37 (by decide) rfl rfl rfl rfl rfl rfl (Nat.le_of_ble_eq_true rfl) (Nat.le_of_ble_eq_true rfl) (decide_eq_true h0) (Nat.le_of_ble_eq_true rfl)) ?_
  exact mThen_eq fun v w9 => mX_mask rfl
theorem b_25_40 {d : Nat} {w : MW} : mX d 25 40 [mJ] [] w = some (.inl none, w) := by
  exact X_ret f_25_40 rfl rfl
/-! BeeTurnpike$Bee endLap ()V -/
theorem f_26_0 : mFetch 26 0 = some (.iconst 0, 1, []) := by decide +kernel
theorem f_26_1 : mFetch 26 1 = some (.istore_n 1, 1, []) := by decide +kernel
theorem f_26_2 : mFetch 26 2 = some (.iload_n 1, 1, []) := by decide +kernel
theorem f_26_3 : mFetch 26 3 = some (.bipush 6, 2, []) := by decide +kernel
theorem f_26_5 : mFetch 26 5 = some (.if_icmp .ge 44, 3, [49]) := by decide +kernel
theorem f_26_8 : mFetch 26 8 = some (.aload_n 0, 1, []) := by decide +kernel
theorem f_26_9 : mFetch 26 9 = some (.iload_n 1, 1, []) := by decide +kernel
theorem f_26_10 : mFetch 26 10 = some (.invokevirtual 72, 3, [1, 2, 2, 0, 575, 576, 577]) := by decide +kernel
theorem f_26_13 : mFetch 26 13 = some (.astore_n 2, 1, []) := by decide +kernel
theorem f_26_14 : mFetch 26 14 = some (.aload_n 2, 1, []) := by decide +kernel
theorem f_26_15 : mFetch 26 15 = some (.getfield 231, 3, [4, 3, 1, 32]) := by decide +kernel
theorem f_26_18 : mFetch 26 18 = some (.ifCond .eq 20, 3, [38]) := by decide +kernel
theorem f_26_21 : mFetch 26 21 = some (.aload_n 0, 1, []) := by decide +kernel
theorem f_26_22 : mFetch 26 22 = some (.getfield 62, 3, [0, 13, 0, 415]) := by decide +kernel
theorem f_26_25 : mFetch 26 25 = some (.ifCond .ne 13, 3, [38]) := by decide +kernel
theorem f_26_28 : mFetch 26 28 = some (.aload_n 2, 1, []) := by decide +kernel
theorem f_26_29 : mFetch 26 29 = some (.iconst 1, 1, []) := by decide +kernel
theorem f_26_30 : mFetch 26 30 = some (.putfield 112, 3, [4, 2, 1, 15]) := by decide +kernel
theorem f_26_33 : mFetch 26 33 = some (.aload_n 2, 1, []) := by decide +kernel
theorem f_26_34 : mFetch 26 34 = some (.iconst 1, 1, []) := by decide +kernel
theorem f_26_35 : mFetch 26 35 = some (.putfield 228, 3, [4, 6, 1, 31]) := by decide +kernel
theorem f_26_38 : mFetch 26 38 = some (.aload_n 2, 1, []) := by decide +kernel
theorem f_26_39 : mFetch 26 39 = some (.iconst 0, 1, []) := by decide +kernel
theorem f_26_40 : mFetch 26 40 = some (.putfield 231, 3, [4, 3, 1, 32]) := by decide +kernel
theorem f_26_43 : mFetch 26 43 = some (.iinc 1 1, 3, []) := by decide +kernel
theorem f_26_46 : mFetch 26 46 = some (.goto (-44), 3, [2]) := by decide +kernel
theorem f_26_49 : mFetch 26 49 = some (.aload_n 0, 1, []) := by decide +kernel
theorem f_26_50 : mFetch 26 50 = some (.iconst 0, 1, []) := by decide +kernel
theorem f_26_51 : mFetch 26 51 = some (.putfield 62, 3, [0, 13, 0, 415]) := by decide +kernel
theorem f_26_54 : mFetch 26 54 = some (.aload_n 0, 1, []) := by decide +kernel
theorem f_26_55 : mFetch 26 55 = some (.dup, 1, []) := by decide +kernel
theorem f_26_56 : mFetch 26 56 = some (.getfield 53, 3, [0, 9, 0, 409]) := by decide +kernel
theorem f_26_59 : mFetch 26 59 = some (.iconst 1, 1, []) := by decide +kernel
theorem f_26_60 : mFetch 26 60 = some (.iadd, 1, []) := by decide +kernel
theorem f_26_61 : mFetch 26 61 = some (.putfield 53, 3, [0, 9, 0, 409]) := by decide +kernel
theorem f_26_64 : mFetch 26 64 = some (.aload_n 0, 1, []) := by decide +kernel
theorem f_26_65 : mFetch 26 65 = some (.invokevirtual 80, 3, [6, 1, 2, 0, 570, 571, 572]) := by decide +kernel
theorem f_26_68 : mFetch 26 68 = some (.iconst 2, 1, []) := by decide +kernel
theorem f_26_69 : mFetch 26 69 = some (.if_icmp .lt 7, 3, [76]) := by decide +kernel
theorem f_26_72 : mFetch 26 72 = some (.iconst 1, 1, []) := by decide +kernel
theorem f_26_73 : mFetch 26 73 = some (.goto 4, 3, [77]) := by decide +kernel
theorem f_26_76 : mFetch 26 76 = some (.iconst 0, 1, []) := by decide +kernel
theorem f_26_77 : mFetch 26 77 = some (.istore_n 1, 1, []) := by decide +kernel
theorem f_26_78 : mFetch 26 78 = some (.iload_n 1, 1, []) := by decide +kernel
theorem f_26_79 : mFetch 26 79 = some (.ifCond .eq 29, 3, [108]) := by decide +kernel
theorem f_26_82 : mFetch 26 82 = some (.aload_n 0, 1, []) := by decide +kernel
theorem f_26_83 : mFetch 26 83 = some (.getfield 53, 3, [0, 9, 0, 409]) := by decide +kernel
theorem f_26_86 : mFetch 26 86 = some (.aload_n 0, 1, []) := by decide +kernel
theorem f_26_87 : mFetch 26 87 = some (.getfield 43, 3, [0, 0, 0, 394]) := by decide +kernel
theorem f_26_90 : mFetch 26 90 = some (.getfield 237, 3, [8, 11, 1, 33]) := by decide +kernel
theorem f_26_93 : mFetch 26 93 = some (.aload_n 0, 1, []) := by decide +kernel
theorem f_26_94 : mFetch 26 94 = some (.getfield 50, 3, [0, 8, 0, 407]) := by decide +kernel
theorem f_26_97 : mFetch 26 97 = some (.invokestatic 108, 3, [123, 2, 1, 0, 14, 559]) := by decide +kernel
theorem f_26_100 : mFetch 26 100 = some (.if_icmp .lt 8, 3, [108]) := by decide +kernel
theorem f_26_103 : mFetch 26 103 = some (.aload_n 0, 1, []) := by decide +kernel
theorem f_26_104 : mFetch 26 104 = some (.invokevirtual 240, 3, [27, 1, 2, 0, 753, 755, 21]) := by decide +kernel
theorem f_26_107 : mFetch 26 107 = some (.istore_n 1, 1, []) := by decide +kernel
theorem f_26_108 : mFetch 26 108 = some (.aload_n 0, 1, []) := by decide +kernel
theorem f_26_109 : mFetch 26 109 = some (.iload_n 1, 1, []) := by decide +kernel
theorem f_26_110 : mFetch 26 110 = some (.ifCond .eq 11, 3, [121]) := by decide +kernel
theorem f_26_113 : mFetch 26 113 = some (.aload_n 0, 1, []) := by decide +kernel
theorem f_26_114 : mFetch 26 114 = some (.iconst 0, 1, []) := by decide +kernel
theorem f_26_115 : mFetch 26 115 = some (.invokevirtual 90, 3, [7, 2, 2, 0, 745, 747, 19]) := by decide +kernel
theorem f_26_118 : mFetch 26 118 = some (.goto 4, 3, [122]) := by decide +kernel
theorem f_26_121 : mFetch 26 121 = some (.iconst (-1), 1, []) := by decide +kernel
theorem f_26_122 : mFetch 26 122 = some (.putfield 39, 3, [0, 11, 0, 411]) := by decide +kernel
theorem f_26_125 : mFetch 26 125 = some (.return_, 1, []) := by decide +kernel
theorem b_26_0 {d : Nat} {a0 : Nat} {w : MW} : mX d 26 0 [.ref a0, mJ, mJ] [] w = mX d 26 2 [.ref a0, .int (nI 0), mJ] [] w := by
  refine Eq.trans (X_iconst f_26_0 kc_i_0) ?_
  refine Eq.trans (X_istore_n (L' := [.ref a0, .int (nI 0), mJ]) f_26_1 (Nat.le_of_ble_eq_true rfl) rfl) ?_
  exact mX_mask rfl
theorem e_26 {d : Nat} {a0 : Nat} {w : MW} : mK d 26 [.ref a0] w = mX d 26 0 [.ref a0, mJ, mJ] [] w := rfl
theorem b_26_2 {d : Nat} {a0 : Nat} {x1 : Int32} {w : MW} : mX d 26 2 [.ref a0, .int x1, mJ] [] w = (if (nI 6) ≤ x1 then mX d 26 49 [.ref a0, mJ, mJ] [] w else mX d 26 8 [.ref a0, .int x1, mJ] [] w) := by
  refine Eq.trans (X_st f_26_2 rfl rfl) ?_
  refine Eq.trans (X_bipush f_26_3 kc_b_6) ?_
  refine Eq.trans (X_br f_26_5 rfl rfl) ?_
  exact mIte_eq (mX_mask rfl) (mX_mask rfl)
theorem b_26_8 {d : Nat} {a0 : Nat} {x1 : Int32} {w : MW} (h0 : mTg w a0 = 0) : mX (d + 1) 26 8 [.ref a0, .int x1, mJ] [] w = mThen (mK d 1 [.ref a0, .int x1] w) (fun v w9 => mX (d + 1) 26 13 [.ref a0, .int x1, mJ] (v.toList ++ []) w9) := by
  refine Eq.trans (X_st f_26_8 rfl rfl) ?_
  refine Eq.trans (X_st f_26_9 rfl rfl) ?_
  refine Eq.trans (X_call f_26_10 (by decide) rfl rfl rfl rfl rfl rfl (Nat.le_of_ble_eq_true rfl) (Nat.le_of_ble_eq_true rfl) (decide_eq_true h0) (Nat.le_of_ble_eq_true rfl)) ?_
  exact mThen_eq fun v w9 => mX_mask rfl
theorem b_26_13 {d : Nat} {a0 : Nat} {x1 : Int32} {b0 : Nat} {w : MW} (h0 : mTg w b0 = 4) : mX d 26 13 [.ref a0, .int x1, mJ] [.ref b0] w = (if (mI w b0 3) = nI 0 then mX d 26 38 [.ref a0, .int x1, .ref b0] [] w else mX d 26 21 [.ref a0, .int x1, .ref b0] [] w) := by
  refine Eq.trans (X_astore_n (L' := [.ref a0, .int x1, .ref b0]) f_26_13 (Nat.le_of_ble_eq_true rfl) rfl) ?_
  refine Eq.trans (X_st f_26_14 rfl rfl) ?_
  refine Eq.trans (X_getI f_26_15 h0 rfl) ?_
  refine Eq.trans (X_br f_26_18 rfl rfl) ?_
  exact mIte_eq (mX_mask rfl) (mX_mask rfl)
theorem b_26_21 {d : Nat} {a0 : Nat} {x1 : Int32} {a2 : Nat} {w : MW} (h0 : mTg w a0 = 0) : mX d 26 21 [.ref a0, .int x1, .ref a2] [] w = (if ¬ (mI w a0 13) = nI 0 then mX d 26 38 [.ref a0, .int x1, .ref a2] [] w else mX d 26 28 [.ref a0, .int x1, .ref a2] [] w) := by
  refine Eq.trans (X_st f_26_21 rfl rfl) ?_
  refine Eq.trans (X_getI f_26_22 h0 rfl) ?_
  refine Eq.trans (X_br f_26_25 rfl rfl) ?_
  exact mIte_eq (mX_mask rfl) (mX_mask rfl)
theorem b_26_28 {d : Nat} {a0 : Nat} {x1 : Int32} {a2 : Nat} {w : MW} (h0 : mTg w a2 = 4) (h1 : mE ≤ a2) (h2 : mTg (wI w a2 2 (nI 1)) a2 = 4) : mX d 26 28 [.ref a0, .int x1, .ref a2] [] w = mX d 26 38 [.ref a0, .int x1, .ref a2] [] (wI (wI w a2 2 (nI 1)) a2 6 (nI 1)) := by
  refine Eq.trans (X_st f_26_28 rfl rfl) ?_
  refine Eq.trans (X_iconst f_26_29 kc_i_1) ?_
  refine Eq.trans (X_putI f_26_30 h0 h1 rfl rfl) ?_
  refine Eq.trans (X_st f_26_33 rfl rfl) ?_
  refine Eq.trans (X_iconst f_26_34 kc_i_1) ?_
  refine Eq.trans (X_putI f_26_35 h2 h1 rfl rfl) ?_
  exact mX_mask rfl
theorem b_26_38 {d : Nat} {a0 : Nat} {x1 : Int32} {a2 : Nat} {w : MW} (h0 : mTg w a2 = 4) (h1 : mE ≤ a2) : mX d 26 38 [.ref a0, .int x1, .ref a2] [] w = mX d 26 2 [.ref a0, .int (x1 + (nI 1)), mJ] [] (wI w a2 3 (nI 0)) := by
  refine Eq.trans (X_st f_26_38 rfl rfl) ?_
  refine Eq.trans (X_iconst f_26_39 kc_i_0) ?_
  refine Eq.trans (X_putI f_26_40 h0 h1 rfl rfl) ?_
  refine Eq.trans (X_iinc f_26_43 kc_i_1 rfl rfl) ?_
  refine Eq.trans (X_st f_26_46 rfl rfl) ?_
  exact mX_mask rfl
theorem b_26_49 {d : Nat} {a0 : Nat} {w : MW} (h0 : mTg w a0 = 0) (h1 : mE ≤ a0) (h2 : mTg (wI w a0 13 (nI 0)) a0 = 0) (h3 : mTg (wI (wI w a0 13 (nI 0)) a0 9 ((mI (wI w a0 13 (nI 0)) a0 9) + (nI 1))) a0 = 0) : mX (d + 1) 26 49 [.ref a0, mJ, mJ] [] w = mThen (mK d 6 [.ref a0] (wI (wI w a0 13 (nI 0)) a0 9 ((mI (wI w a0 13 (nI 0)) a0 9) + (nI 1)))) (fun v w9 => mX (d + 1) 26 68 [.ref a0, mJ, mJ] (v.toList ++ []) w9) := by
  refine Eq.trans (X_st f_26_49 rfl rfl) ?_
  refine Eq.trans (X_iconst f_26_50 kc_i_0) ?_
  refine Eq.trans (X_putI f_26_51 h0 h1 rfl rfl) ?_
  refine Eq.trans (X_st f_26_54 rfl rfl) ?_
  refine Eq.trans (X_dup f_26_55 rfl) ?_
  refine Eq.trans (X_getI f_26_56 h2 rfl) ?_
  refine Eq.trans (X_iconst f_26_59 kc_i_1) ?_
  refine Eq.trans (X_st f_26_60 rfl rfl) ?_
  refine Eq.trans (X_putI f_26_61 h2 h1 rfl rfl) ?_
  refine Eq.trans (X_st f_26_64 rfl rfl) ?_
  refine Eq.trans (X_call f_26_65 (by decide) rfl rfl rfl rfl rfl rfl (Nat.le_of_ble_eq_true rfl) (Nat.le_of_ble_eq_true rfl) (decide_eq_true h3) (Nat.le_of_ble_eq_true rfl)) ?_
  exact mThen_eq fun v w9 => mX_mask rfl
theorem b_26_68 {d : Nat} {a0 : Nat} {y0 : Int32} {w : MW} : mX d 26 68 [.ref a0, mJ, mJ] [.int y0] w = (if y0 < (nI 2) then mX d 26 76 [.ref a0, mJ, mJ] [] w else mX d 26 72 [.ref a0, mJ, mJ] [] w) := by
  refine Eq.trans (X_iconst f_26_68 kc_i_2) ?_
  refine Eq.trans (X_br f_26_69 rfl rfl) ?_
  exact mIte_eq (mX_mask rfl) (mX_mask rfl)
theorem b_26_72 {d : Nat} {a0 : Nat} {w : MW} : mX d 26 72 [.ref a0, mJ, mJ] [] w = mX d 26 77 [.ref a0, mJ, mJ] [.int (nI 1)] w := by
  refine Eq.trans (X_iconst f_26_72 kc_i_1) ?_
  refine Eq.trans (X_st f_26_73 rfl rfl) ?_
  exact mX_mask rfl
theorem b_26_76 {d : Nat} {a0 : Nat} {w : MW} : mX d 26 76 [.ref a0, mJ, mJ] [] w = mX d 26 77 [.ref a0, mJ, mJ] [.int (nI 0)] w := by
  refine Eq.trans (X_iconst f_26_76 kc_i_0) ?_
  exact mX_mask rfl
theorem b_26_77 {d : Nat} {a0 : Nat} {y0 : Int32} {w : MW} : mX d 26 77 [.ref a0, mJ, mJ] [.int y0] w = (if y0 = nI 0 then mX d 26 108 [.ref a0, .int y0, mJ] [] w else mX d 26 82 [.ref a0, .int y0, mJ] [] w) := by
  refine Eq.trans (X_istore_n (L' := [.ref a0, .int y0, mJ]) f_26_77 (Nat.le_of_ble_eq_true rfl) rfl) ?_
  refine Eq.trans (X_st f_26_78 rfl rfl) ?_
  refine Eq.trans (X_br f_26_79 rfl rfl) ?_
  exact mIte_eq (mX_mask rfl) (mX_mask rfl)
theorem b_26_82 {d : Nat} {a0 : Nat} {x1 : Int32} {w : MW} (h0 : mTg w a0 = 0) (h1 : mR w a0 0 = some (gR w a0 0)) (h2 : mTg w (gR w a0 0) = 8) (h3 : mR w (gR w a0 0) 11 = some (gR w (gR w a0 0) 11)) : mX (d + 1) 26 82 [.ref a0, .int x1, mJ] [] w = mThen (mK d 123 [.ref (gR w (gR w a0 0) 11), .int (mI w a0 8)] w) (fun v w9 => mX (d + 1) 26 100 [.ref a0, .int x1, mJ] (v.toList ++ [.int (mI w a0 9)]) w9) := by
  refine Eq.trans (X_st f_26_82 rfl rfl) ?_
  refine Eq.trans (X_getI f_26_83 h0 rfl) ?_
  refine Eq.trans (X_st f_26_86 rfl rfl) ?_
  refine Eq.trans (X_getR f_26_87 h0 rfl h1) ?_
  refine Eq.trans (X_getR f_26_90 h2 rfl h3) ?_
  refine Eq.trans (X_st f_26_93 rfl rfl) ?_
  refine Eq.trans (X_getI f_26_94 h0 rfl) ?_
  refine Eq.trans (X_call f_26_97 (by decide) rfl rfl rfl rfl rfl rfl (Nat.le_of_ble_eq_true rfl) (Nat.le_of_ble_eq_true rfl) rfl (Nat.le_of_ble_eq_true rfl)) ?_
  exact mThen_eq fun v w9 => mX_mask rfl
theorem b_26_100 {d : Nat} {a0 : Nat} {x1 : Int32} {y0 : Int32} {y1 : Int32} {w : MW} : mX d 26 100 [.ref a0, .int x1, mJ] [.int y0, .int y1] w = (if y1 < y0 then mX d 26 108 [.ref a0, .int x1, mJ] [] w else mX d 26 103 [.ref a0, mJ, mJ] [] w) := by
  refine Eq.trans (X_br f_26_100 rfl rfl) ?_
  exact mIte_eq (mX_mask rfl) (mX_mask rfl)
theorem b_26_103 {d : Nat} {a0 : Nat} {w : MW} (h0 : mTg w a0 = 0) : mX (d + 1) 26 103 [.ref a0, mJ, mJ] [] w = mThen (mK d 27 [.ref a0] w) (fun v w9 => mX (d + 1) 26 107 [.ref a0, mJ, mJ] (v.toList ++ []) w9) := by
  refine Eq.trans (X_st f_26_103 rfl rfl) ?_
  refine Eq.trans (X_call f_26_104 (by decide) rfl rfl rfl rfl rfl rfl (Nat.le_of_ble_eq_true rfl) (Nat.le_of_ble_eq_true rfl) (decide_eq_true h0) (Nat.le_of_ble_eq_true rfl)) ?_
  exact mThen_eq fun v w9 => mX_mask rfl
theorem b_26_107 {d : Nat} {a0 : Nat} {y0 : Int32} {w : MW} : mX d 26 107 [.ref a0, mJ, mJ] [.int y0] w = mX d 26 108 [.ref a0, .int y0, mJ] [] w := by
  refine Eq.trans (X_istore_n (L' := [.ref a0, .int y0, mJ]) f_26_107 (Nat.le_of_ble_eq_true rfl) rfl) ?_
  exact mX_mask rfl
theorem b_26_108 {d : Nat} {a0 : Nat} {x1 : Int32} {w : MW} : mX d 26 108 [.ref a0, .int x1, mJ] [] w = (if x1 = nI 0 then mX d 26 121 [mJ, mJ, mJ] [.ref a0] w else mX d 26 113 [.ref a0, mJ, mJ] [.ref a0] w) := by
  refine Eq.trans (X_st f_26_108 rfl rfl) ?_
  refine Eq.trans (X_st f_26_109 rfl rfl) ?_
  refine Eq.trans (X_br f_26_110 rfl rfl) ?_
  exact mIte_eq (mX_mask rfl) (mX_mask rfl)
theorem b_26_113 {d : Nat} {a0 : Nat} {b0 : Nat} {w : MW} (h0 : mTg w a0 = 0) : mX (d + 1) 26 113 [.ref a0, mJ, mJ] [.ref b0] w = mThen (mK d 7 [.ref a0, .int (nI 0)] w) (fun v w9 => mX (d + 1) 26 118 [mJ, mJ, mJ] (v.toList ++ [.ref b0]) w9) := by
  refine Eq.trans (X_st f_26_113 rfl rfl) ?_
  refine Eq.trans (X_iconst f_26_114 kc_i_0) ?_
  refine Eq.trans (X_call f_26_115 (by decide) rfl rfl rfl rfl rfl rfl (Nat.le_of_ble_eq_true rfl) (Nat.le_of_ble_eq_true rfl) (decide_eq_true h0) (Nat.le_of_ble_eq_true rfl)) ?_
  exact mThen_eq fun v w9 => mX_mask rfl
theorem b_26_118 {d : Nat} {y0 : Int32} {b1 : Nat} {w : MW} : mX d 26 118 [mJ, mJ, mJ] [.int y0, .ref b1] w = mX d 26 122 [mJ, mJ, mJ] [.int y0, .ref b1] w := by
  refine Eq.trans (X_st f_26_118 rfl rfl) ?_
  exact mX_mask rfl
theorem b_26_121 {d : Nat} {b0 : Nat} {w : MW} : mX d 26 121 [mJ, mJ, mJ] [.ref b0] w = mX d 26 122 [mJ, mJ, mJ] [.int (-1 : Int32), .ref b0] w := by
  refine Eq.trans (X_iconst f_26_121 kc_i_m1) ?_
  exact mX_mask rfl
theorem b_26_122 {d : Nat} {y0 : Int32} {b1 : Nat} {w : MW} (h0 : mTg w b1 = 0) (h1 : mE ≤ b1) : mX d 26 122 [mJ, mJ, mJ] [.int y0, .ref b1] w = some (.inl none, wI w b1 11 y0) := by
  refine Eq.trans (X_putI f_26_122 h0 h1 rfl rfl) ?_
  exact X_ret f_26_125 rfl rfl
/-! BeeTurnpike$Bee endRound ()Z -/
theorem f_27_0 : mFetch 27 0 = some (.aload_n 0, 1, []) := by decide +kernel
theorem f_27_1 : mFetch 27 1 = some (.aload_n 0, 1, []) := by decide +kernel
theorem f_27_2 : mFetch 27 2 = some (.getfield 43, 3, [0, 0, 0, 394]) := by decide +kernel
theorem f_27_5 : mFetch 27 5 = some (.getfield 243, 3, [8, 10, 1, 34]) := by decide +kernel
theorem f_27_8 : mFetch 27 8 = some (.aload_n 0, 1, []) := by decide +kernel
theorem f_27_9 : mFetch 27 9 = some (.getfield 50, 3, [0, 8, 0, 407]) := by decide +kernel
theorem f_27_12 : mFetch 27 12 = some (.invokestatic 108, 3, [123, 2, 1, 0, 14, 559]) := by decide +kernel
theorem f_27_15 : mFetch 27 15 = some (.invokevirtual 246, 3, [28, 2, 2, 0, 757, 759, 22]) := by decide +kernel
theorem f_27_18 : mFetch 27 18 = some (.iconst 0, 1, []) := by decide +kernel
theorem f_27_19 : mFetch 27 19 = some (.istore_n 1, 1, []) := by decide +kernel
theorem f_27_20 : mFetch 27 20 = some (.iload_n 1, 1, []) := by decide +kernel
theorem f_27_21 : mFetch 27 21 = some (.bipush 6, 2, []) := by decide +kernel
theorem f_27_23 : mFetch 27 23 = some (.if_icmp .ge 18, 3, [41]) := by decide +kernel
theorem f_27_26 : mFetch 27 26 = some (.aload_n 0, 1, []) := by decide +kernel
theorem f_27_27 : mFetch 27 27 = some (.iload_n 1, 1, []) := by decide +kernel
theorem f_27_28 : mFetch 27 28 = some (.invokevirtual 72, 3, [1, 2, 2, 0, 575, 576, 577]) := by decide +kernel
theorem f_27_31 : mFetch 27 31 = some (.iconst 0, 1, []) := by decide +kernel
theorem f_27_32 : mFetch 27 32 = some (.putfield 228, 3, [4, 6, 1, 31]) := by decide +kernel
theorem f_27_35 : mFetch 27 35 = some (.iinc 1 1, 3, []) := by decide +kernel
theorem f_27_38 : mFetch 27 38 = some (.goto (-18), 3, [20]) := by decide +kernel
theorem f_27_41 : mFetch 27 41 = some (.aload_n 0, 1, []) := by decide +kernel
theorem f_27_42 : mFetch 27 42 = some (.invokevirtual 80, 3, [6, 1, 2, 0, 570, 571, 572]) := by decide +kernel
theorem f_27_45 : mFetch 27 45 = some (.iconst 2, 1, []) := by decide +kernel
theorem f_27_46 : mFetch 27 46 = some (.if_icmp .lt 20, 3, [66]) := by decide +kernel
theorem f_27_49 : mFetch 27 49 = some (.aload_n 0, 1, []) := by decide +kernel
theorem f_27_50 : mFetch 27 50 = some (.getfield 50, 3, [0, 8, 0, 407]) := by decide +kernel
theorem f_27_53 : mFetch 27 53 = some (.iconst 1, 1, []) := by decide +kernel
theorem f_27_54 : mFetch 27 54 = some (.iadd, 1, []) := by decide +kernel
theorem f_27_55 : mFetch 27 55 = some (.aload_n 0, 1, []) := by decide +kernel
theorem f_27_56 : mFetch 27 56 = some (.getfield 43, 3, [0, 0, 0, 394]) := by decide +kernel
theorem f_27_59 : mFetch 27 59 = some (.iconst 4, 1, []) := by decide +kernel
theorem f_27_60 : mFetch 27 60 = some (.invokevirtual 84, 3, [85, 2, 2, 8, 574, 562, 563]) := by decide +kernel
theorem f_27_63 : mFetch 27 63 = some (.if_icmp .lt 5, 3, [68]) := by decide +kernel
theorem f_27_66 : mFetch 27 66 = some (.iconst 0, 1, []) := by decide +kernel
theorem f_27_67 : mFetch 27 67 = some (.ireturn, 1, [2]) := by decide +kernel
theorem f_27_68 : mFetch 27 68 = some (.aload_n 0, 1, []) := by decide +kernel
theorem f_27_69 : mFetch 27 69 = some (.dup, 1, []) := by decide +kernel
theorem f_27_70 : mFetch 27 70 = some (.getfield 50, 3, [0, 8, 0, 407]) := by decide +kernel
theorem f_27_73 : mFetch 27 73 = some (.iconst 1, 1, []) := by decide +kernel
theorem f_27_74 : mFetch 27 74 = some (.iadd, 1, []) := by decide +kernel
theorem f_27_75 : mFetch 27 75 = some (.putfield 50, 3, [0, 8, 0, 407]) := by decide +kernel
theorem f_27_78 : mFetch 27 78 = some (.aload_n 0, 1, []) := by decide +kernel
theorem f_27_79 : mFetch 27 79 = some (.iconst 0, 1, []) := by decide +kernel
theorem f_27_80 : mFetch 27 80 = some (.putfield 53, 3, [0, 9, 0, 409]) := by decide +kernel
theorem f_27_83 : mFetch 27 83 = some (.aload_n 0, 1, []) := by decide +kernel
theorem f_27_84 : mFetch 27 84 = some (.iconst 0, 1, []) := by decide +kernel
theorem f_27_85 : mFetch 27 85 = some (.putfield 56, 3, [0, 10, 0, 410]) := by decide +kernel
theorem f_27_88 : mFetch 27 88 = some (.iconst 1, 1, []) := by decide +kernel
theorem f_27_89 : mFetch 27 89 = some (.ireturn, 1, [2]) := by decide +kernel
theorem b_27_0 {d : Nat} {a0 : Nat} {w : MW} (h0 : mTg w a0 = 0) (h1 : mR w a0 0 = some (gR w a0 0)) (h2 : mTg w (gR w a0 0) = 8) (h3 : mR w (gR w a0 0) 10 = some (gR w (gR w a0 0) 10)) : mX (d + 1) 27 0 [.ref a0, mJ] [] w = mThen (mK d 123 [.ref (gR w (gR w a0 0) 10), .int (mI w a0 8)] w) (fun v w9 => mX (d + 1) 27 15 [.ref a0, mJ] (v.toList ++ [.ref a0]) w9) := by
  refine Eq.trans (X_st f_27_0 rfl rfl) ?_
  refine Eq.trans (X_st f_27_1 rfl rfl) ?_
  refine Eq.trans (X_getR f_27_2 h0 rfl h1) ?_
  refine Eq.trans (X_getR f_27_5 h2 rfl h3) ?_
  refine Eq.trans (X_st f_27_8 rfl rfl) ?_
  refine Eq.trans (X_getI f_27_9 h0 rfl) ?_
  refine Eq.trans (X_call f_27_12 (by decide) rfl rfl rfl rfl rfl rfl (Nat.le_of_ble_eq_true rfl) (Nat.le_of_ble_eq_true rfl) rfl (Nat.le_of_ble_eq_true rfl)) ?_
  exact mThen_eq fun v w9 => mX_mask rfl
theorem e_27 {d : Nat} {a0 : Nat} {w : MW} : mK d 27 [.ref a0] w = mX d 27 0 [.ref a0, mJ] [] w := rfl
theorem b_27_15 {d : Nat} {a0 : Nat} {y0 : Int32} {b1 : Nat} {w : MW} (h0 : mTg w b1 = 0) : mX (d + 1) 27 15 [.ref a0, mJ] [.int y0, .ref b1] w = mThen (mK d 28 [.ref b1, .int y0] w) (fun v w9 => mX (d + 1) 27 18 [.ref a0, mJ] (v.toList ++ []) w9) := by
  refine Eq.trans (X_call f_27_15 (by decide) rfl rfl rfl rfl rfl rfl (Nat.le_of_ble_eq_true rfl) (Nat.le_of_ble_eq_true rfl) (decide_eq_true h0) (Nat.le_of_ble_eq_true rfl)) ?_
  exact mThen_eq fun v w9 => mX_mask rfl
theorem b_27_18 {d : Nat} {a0 : Nat} {w : MW} : mX d 27 18 [.ref a0, mJ] [] w = mX d 27 20 [.ref a0, .int (nI 0)] [] w := by
  refine Eq.trans (X_iconst f_27_18 kc_i_0) ?_
  refine Eq.trans (X_istore_n (L' := [.ref a0, .int (nI 0)]) f_27_19 (Nat.le_of_ble_eq_true rfl) rfl) ?_
  exact mX_mask rfl
theorem b_27_20 {d : Nat} {a0 : Nat} {x1 : Int32} {w : MW} : mX d 27 20 [.ref a0, .int x1] [] w = (if (nI 6) ≤ x1 then mX d 27 41 [.ref a0, mJ] [] w else mX d 27 26 [.ref a0, .int x1] [] w) := by
  refine Eq.trans (X_st f_27_20 rfl rfl) ?_
  refine Eq.trans (X_bipush f_27_21 kc_b_6) ?_
  refine Eq.trans (X_br f_27_23 rfl rfl) ?_
  exact mIte_eq (mX_mask rfl) (mX_mask rfl)
theorem b_27_26 {d : Nat} {a0 : Nat} {x1 : Int32} {w : MW} (h0 : mTg w a0 = 0) : mX (d + 1) 27 26 [.ref a0, .int x1] [] w = mThen (mK d 1 [.ref a0, .int x1] w) (fun v w9 => mX (d + 1) 27 31 [.ref a0, .int x1] (v.toList ++ []) w9) := by
  refine Eq.trans (X_st f_27_26 rfl rfl) ?_
  refine Eq.trans (X_st f_27_27 rfl rfl) ?_
  refine Eq.trans (X_call f_27_28 (by decide) rfl rfl rfl rfl rfl rfl (Nat.le_of_ble_eq_true rfl) (Nat.le_of_ble_eq_true rfl) (decide_eq_true h0) (Nat.le_of_ble_eq_true rfl)) ?_
  exact mThen_eq fun v w9 => mX_mask rfl
theorem b_27_31 {d : Nat} {a0 : Nat} {x1 : Int32} {b0 : Nat} {w : MW} (h0 : mTg w b0 = 4) (h1 : mE ≤ b0) : mX d 27 31 [.ref a0, .int x1] [.ref b0] w = mX d 27 20 [.ref a0, .int (x1 + (nI 1))] [] (wI w b0 6 (nI 0)) := by
  refine Eq.trans (X_iconst f_27_31 kc_i_0) ?_
  refine Eq.trans (X_putI f_27_32 h0 h1 rfl rfl) ?_
  refine Eq.trans (X_iinc f_27_35 kc_i_1 rfl rfl) ?_
  refine Eq.trans (X_st f_27_38 rfl rfl) ?_
  exact mX_mask rfl
theorem b_27_41 {d : Nat} {a0 : Nat} {w : MW} (h0 : mTg w a0 = 0) : mX (d + 1) 27 41 [.ref a0, mJ] [] w = mThen (mK d 6 [.ref a0] w) (fun v w9 => mX (d + 1) 27 45 [.ref a0, mJ] (v.toList ++ []) w9) := by
  refine Eq.trans (X_st f_27_41 rfl rfl) ?_
  refine Eq.trans (X_call f_27_42 (by decide) rfl rfl rfl rfl rfl rfl (Nat.le_of_ble_eq_true rfl) (Nat.le_of_ble_eq_true rfl) (decide_eq_true h0) (Nat.le_of_ble_eq_true rfl)) ?_
  exact mThen_eq fun v w9 => mX_mask rfl
theorem b_27_45 {d : Nat} {a0 : Nat} {y0 : Int32} {w : MW} : mX d 27 45 [.ref a0, mJ] [.int y0] w = (if y0 < (nI 2) then mX d 27 66 [mJ, mJ] [] w else mX d 27 49 [.ref a0, mJ] [] w) := by
  refine Eq.trans (X_iconst f_27_45 kc_i_2) ?_
  refine Eq.trans (X_br f_27_46 rfl rfl) ?_
  exact mIte_eq (mX_mask rfl) (mX_mask rfl)
theorem b_27_49 {d : Nat} {a0 : Nat} {w : MW} (h0 : mTg w a0 = 0) (h1 : mR w a0 0 = some (gR w a0 0)) (h2 : mTg w (gR w a0 0) = 8) : mX (d + 1) 27 49 [.ref a0, mJ] [] w = mThen (mK d 85 [.ref (gR w a0 0), .int (nI 4)] w) (fun v w9 => mX (d + 1) 27 63 [.ref a0, mJ] (v.toList ++ [.int ((mI w a0 8) + (nI 1))]) w9) := by
  refine Eq.trans (X_st f_27_49 rfl rfl) ?_
  refine Eq.trans (X_getI f_27_50 h0 rfl) ?_
  refine Eq.trans (X_iconst f_27_53 kc_i_1) ?_
  refine Eq.trans (X_st f_27_54 rfl rfl) ?_
  refine Eq.trans (X_st f_27_55 rfl rfl) ?_
  refine Eq.trans (X_getR f_27_56 h0 rfl h1) ?_
  refine Eq.trans (X_iconst f_27_59 kc_i_4) ?_
  refine Eq.trans (X_call f_27_60 (by decide) rfl rfl rfl rfl rfl rfl (Nat.le_of_ble_eq_true rfl) (Nat.le_of_ble_eq_true rfl) (decide_eq_true h2) (Nat.le_of_ble_eq_true rfl)) ?_
  exact mThen_eq fun v w9 => mX_mask rfl
theorem b_27_63 {d : Nat} {a0 : Nat} {y0 : Int32} {y1 : Int32} {w : MW} : mX d 27 63 [.ref a0, mJ] [.int y0, .int y1] w = (if y1 < y0 then mX d 27 68 [.ref a0, mJ] [] w else mX d 27 66 [mJ, mJ] [] w) := by
  refine Eq.trans (X_br f_27_63 rfl rfl) ?_
  exact mIte_eq (mX_mask rfl) (mX_mask rfl)
theorem b_27_66 {d : Nat} {w : MW} : mX d 27 66 [mJ, mJ] [] w = some (.inl (some (.int (nI 0))), w) := by
  refine Eq.trans (X_iconst f_27_66 kc_i_0) ?_
  exact X_ireturn f_27_67 rfl
theorem b_27_68 {d : Nat} {a0 : Nat} {w : MW} (h0 : mTg w a0 = 0) (h1 : mE ≤ a0) (h2 : mTg (wI w a0 8 ((mI w a0 8) + (nI 1))) a0 = 0) (h3 : mTg (wI (wI w a0 8 ((mI w a0 8) + (nI 1))) a0 9 (nI 0)) a0 = 0) : mX d 27 68 [.ref a0, mJ] [] w = some (.inl (some (.int (nI 1))), wI (wI (wI w a0 8 ((mI w a0 8) + (nI 1))) a0 9 (nI 0)) a0 10 (nI 0)) := by
  refine Eq.trans (X_st f_27_68 rfl rfl) ?_
  refine Eq.trans (X_dup f_27_69 rfl) ?_
  refine Eq.trans (X_getI f_27_70 h0 rfl) ?_
  refine Eq.trans (X_iconst f_27_73 kc_i_1) ?_
  refine Eq.trans (X_st f_27_74 rfl rfl) ?_
  refine Eq.trans (X_putI f_27_75 h0 h1 rfl rfl) ?_
  refine Eq.trans (X_st f_27_78 rfl rfl) ?_
  refine Eq.trans (X_iconst f_27_79 kc_i_0) ?_
  refine Eq.trans (X_putI f_27_80 h2 h1 rfl rfl) ?_
  refine Eq.trans (X_st f_27_83 rfl rfl) ?_
  refine Eq.trans (X_iconst f_27_84 kc_i_0) ?_
  refine Eq.trans (X_putI f_27_85 h3 h1 rfl rfl) ?_
  refine Eq.trans (X_iconst f_27_88 kc_i_1) ?_
  exact X_ireturn f_27_89 rfl
/-! BeeTurnpike$Bee takeToll (I)V -/
theorem f_28_0 : mFetch 28 0 = some (.iconst 0, 1, []) := by decide +kernel
theorem f_28_1 : mFetch 28 1 = some (.istore_n 2, 1, []) := by decide +kernel
theorem f_28_2 : mFetch 28 2 = some (.iconst 0, 1, []) := by decide +kernel
theorem f_28_3 : mFetch 28 3 = some (.istore_n 3, 1, []) := by decide +kernel
theorem f_28_4 : mFetch 28 4 = some (.iload_n 3, 1, []) := by decide +kernel
theorem f_28_5 : mFetch 28 5 = some (.bipush 6, 2, []) := by decide +kernel
theorem f_28_7 : mFetch 28 7 = some (.if_icmp .ge 43, 3, [50]) := by decide +kernel
theorem f_28_10 : mFetch 28 10 = some (.aload_n 0, 1, []) := by decide +kernel
theorem f_28_11 : mFetch 28 11 = some (.iload_n 3, 1, []) := by decide +kernel
theorem f_28_12 : mFetch 28 12 = some (.invokevirtual 72, 3, [1, 2, 2, 0, 575, 576, 577]) := by decide +kernel
theorem f_28_15 : mFetch 28 15 = some (.astore 4, 2, []) := by decide +kernel
theorem f_28_17 : mFetch 28 17 = some (.iload_n 2, 1, []) := by decide +kernel
theorem f_28_18 : mFetch 28 18 = some (.ifCond .ne 20, 3, [38]) := by decide +kernel
theorem f_28_21 : mFetch 28 21 = some (.aload 4, 2, []) := by decide +kernel
theorem f_28_23 : mFetch 28 23 = some (.getfield 112, 3, [4, 2, 1, 15]) := by decide +kernel
theorem f_28_26 : mFetch 28 26 = some (.ifCond .eq 16, 3, [42]) := by decide +kernel
theorem f_28_29 : mFetch 28 29 = some (.aload 4, 2, []) := by decide +kernel
theorem f_28_31 : mFetch 28 31 = some (.getfield 119, 3, [4, 5, 1, 16]) := by decide +kernel
theorem f_28_34 : mFetch 28 34 = some (.iload_n 1, 1, []) := by decide +kernel
theorem f_28_35 : mFetch 28 35 = some (.if_icmp .lt 7, 3, [42]) := by decide +kernel
theorem f_28_38 : mFetch 28 38 = some (.iconst 1, 1, []) := by decide +kernel
theorem f_28_39 : mFetch 28 39 = some (.goto 4, 3, [43]) := by decide +kernel
theorem f_28_42 : mFetch 28 42 = some (.iconst 0, 1, []) := by decide +kernel
theorem f_28_43 : mFetch 28 43 = some (.istore_n 2, 1, []) := by decide +kernel
theorem f_28_44 : mFetch 28 44 = some (.iinc 3 1, 3, []) := by decide +kernel
theorem f_28_47 : mFetch 28 47 = some (.goto (-43), 3, [4]) := by decide +kernel
theorem f_28_50 : mFetch 28 50 = some (.iconst 0, 1, []) := by decide +kernel
theorem f_28_51 : mFetch 28 51 = some (.istore_n 3, 1, []) := by decide +kernel
theorem f_28_52 : mFetch 28 52 = some (.iload_n 3, 1, []) := by decide +kernel
theorem f_28_53 : mFetch 28 53 = some (.bipush 6, 2, []) := by decide +kernel
theorem f_28_55 : mFetch 28 55 = some (.if_icmp .ge 47, 3, [102]) := by decide +kernel
theorem f_28_58 : mFetch 28 58 = some (.iload_n 2, 1, []) := by decide +kernel
theorem f_28_59 : mFetch 28 59 = some (.ifCond .eq 43, 3, [102]) := by decide +kernel
theorem f_28_62 : mFetch 28 62 = some (.aload_n 0, 1, []) := by decide +kernel
theorem f_28_63 : mFetch 28 63 = some (.iload_n 3, 1, []) := by decide +kernel
theorem f_28_64 : mFetch 28 64 = some (.invokevirtual 72, 3, [1, 2, 2, 0, 575, 576, 577]) := by decide +kernel
theorem f_28_67 : mFetch 28 67 = some (.astore 4, 2, []) := by decide +kernel
theorem f_28_69 : mFetch 28 69 = some (.aload 4, 2, []) := by decide +kernel
theorem f_28_71 : mFetch 28 71 = some (.aload 4, 2, []) := by decide +kernel
theorem f_28_73 : mFetch 28 73 = some (.getfield 112, 3, [4, 2, 1, 15]) := by decide +kernel
theorem f_28_76 : mFetch 28 76 = some (.ifCond .eq 16, 3, [92]) := by decide +kernel
theorem f_28_79 : mFetch 28 79 = some (.aload 4, 2, []) := by decide +kernel
theorem f_28_81 : mFetch 28 81 = some (.getfield 119, 3, [4, 5, 1, 16]) := by decide +kernel
theorem f_28_84 : mFetch 28 84 = some (.iload_n 1, 1, []) := by decide +kernel
theorem f_28_85 : mFetch 28 85 = some (.if_icmp .lt 7, 3, [92]) := by decide +kernel
theorem f_28_88 : mFetch 28 88 = some (.iconst 1, 1, []) := by decide +kernel
theorem f_28_89 : mFetch 28 89 = some (.goto 4, 3, [93]) := by decide +kernel
theorem f_28_92 : mFetch 28 92 = some (.iconst 0, 1, []) := by decide +kernel
theorem f_28_93 : mFetch 28 93 = some (.putfield 112, 3, [4, 2, 1, 15]) := by decide +kernel
theorem f_28_96 : mFetch 28 96 = some (.iinc 3 1, 3, []) := by decide +kernel
theorem f_28_99 : mFetch 28 99 = some (.goto (-47), 3, [52]) := by decide +kernel
theorem f_28_102 : mFetch 28 102 = some (.return_, 1, []) := by decide +kernel
theorem b_28_0 {d : Nat} {a0 : Nat} {x1 : Int32} {w : MW} : mX d 28 0 [.ref a0, .int x1, mJ, mJ, mJ] [] w = mX d 28 4 [.ref a0, .int x1, .int (nI 0), .int (nI 0), mJ] [] w := by
  refine Eq.trans (X_iconst f_28_0 kc_i_0) ?_
  refine Eq.trans (X_istore_n (L' := [.ref a0, .int x1, .int (nI 0), mJ, mJ]) f_28_1 (Nat.le_of_ble_eq_true rfl) rfl) ?_
  refine Eq.trans (X_iconst f_28_2 kc_i_0) ?_
  refine Eq.trans (X_istore_n (L' := [.ref a0, .int x1, .int (nI 0), .int (nI 0), mJ]) f_28_3 (Nat.le_of_ble_eq_true rfl) rfl) ?_
  exact mX_mask rfl
theorem e_28 {d : Nat} {a0 : Nat} {x1 : Int32} {w : MW} : mK d 28 [.ref a0, .int x1] w = mX d 28 0 [.ref a0, .int x1, mJ, mJ, mJ] [] w := rfl
theorem b_28_4 {d : Nat} {a0 : Nat} {x1 : Int32} {x2 : Int32} {x3 : Int32} {w : MW} : mX d 28 4 [.ref a0, .int x1, .int x2, .int x3, mJ] [] w = (if (nI 6) ≤ x3 then mX d 28 50 [.ref a0, .int x1, .int x2, mJ, mJ] [] w else mX d 28 10 [.ref a0, .int x1, .int x2, .int x3, mJ] [] w) := by
  refine Eq.trans (X_st f_28_4 rfl rfl) ?_
  refine Eq.trans (X_bipush f_28_5 kc_b_6) ?_
  refine Eq.trans (X_br f_28_7 rfl rfl) ?_
  exact mIte_eq (mX_mask rfl) (mX_mask rfl)
theorem b_28_10 {d : Nat} {a0 : Nat} {x1 : Int32} {x2 : Int32} {x3 : Int32} {w : MW} (h0 : mTg w a0 = 0) : mX (d + 1) 28 10 [.ref a0, .int x1, .int x2, .int x3, mJ] [] w = mThen (mK d 1 [.ref a0, .int x3] w) (fun v w9 => mX (d + 1) 28 15 [.ref a0, .int x1, .int x2, .int x3, mJ] (v.toList ++ []) w9) := by
  refine Eq.trans (X_st f_28_10 rfl rfl) ?_
  refine Eq.trans (X_st f_28_11 rfl rfl) ?_
  refine Eq.trans (X_call f_28_12 (by decide) rfl rfl rfl rfl rfl rfl (Nat.le_of_ble_eq_true rfl) (Nat.le_of_ble_eq_true rfl) (decide_eq_true h0) (Nat.le_of_ble_eq_true rfl)) ?_
  exact mThen_eq fun v w9 => mX_mask rfl
theorem b_28_15 {d : Nat} {a0 : Nat} {x1 : Int32} {x2 : Int32} {x3 : Int32} {b0 : Nat} {w : MW} : mX d 28 15 [.ref a0, .int x1, .int x2, .int x3, mJ] [.ref b0] w = (if ¬ x2 = nI 0 then mX d 28 38 [.ref a0, .int x1, mJ, .int x3, mJ] [] w else mX d 28 21 [.ref a0, .int x1, mJ, .int x3, .ref b0] [] w) := by
  refine Eq.trans (X_astore (L' := [.ref a0, .int x1, .int x2, .int x3, .ref b0]) f_28_15 (Nat.le_of_ble_eq_true rfl) rfl) ?_
  refine Eq.trans (X_st f_28_17 rfl rfl) ?_
  refine Eq.trans (X_br f_28_18 rfl rfl) ?_
  exact mIte_eq (mX_mask rfl) (mX_mask rfl)
theorem b_28_21 {d : Nat} {a0 : Nat} {x1 : Int32} {x3 : Int32} {a4 : Nat} {w : MW} (h0 : mTg w a4 = 4) : mX d 28 21 [.ref a0, .int x1, mJ, .int x3, .ref a4] [] w = (if (mI w a4 2) = nI 0 then mX d 28 42 [.ref a0, .int x1, mJ, .int x3, mJ] [] w else mX d 28 29 [.ref a0, .int x1, mJ, .int x3, .ref a4] [] w) := by
  refine Eq.trans (X_st f_28_21 rfl rfl) ?_
  refine Eq.trans (X_getI f_28_23 h0 rfl) ?_
  refine Eq.trans (X_br f_28_26 rfl rfl) ?_
  exact mIte_eq (mX_mask rfl) (mX_mask rfl)
theorem b_28_29 {d : Nat} {a0 : Nat} {x1 : Int32} {x3 : Int32} {a4 : Nat} {w : MW} (h0 : mTg w a4 = 4) : mX d 28 29 [.ref a0, .int x1, mJ, .int x3, .ref a4] [] w = (if (mI w a4 5) < x1 then mX d 28 42 [.ref a0, .int x1, mJ, .int x3, mJ] [] w else mX d 28 38 [.ref a0, .int x1, mJ, .int x3, mJ] [] w) := by
  refine Eq.trans (X_st f_28_29 rfl rfl) ?_
  refine Eq.trans (X_getI f_28_31 h0 rfl) ?_
  refine Eq.trans (X_st f_28_34 rfl rfl) ?_
  refine Eq.trans (X_br f_28_35 rfl rfl) ?_
  exact mIte_eq (mX_mask rfl) (mX_mask rfl)
theorem b_28_38 {d : Nat} {a0 : Nat} {x1 : Int32} {x3 : Int32} {w : MW} : mX d 28 38 [.ref a0, .int x1, mJ, .int x3, mJ] [] w = mX d 28 43 [.ref a0, .int x1, mJ, .int x3, mJ] [.int (nI 1)] w := by
  refine Eq.trans (X_iconst f_28_38 kc_i_1) ?_
  refine Eq.trans (X_st f_28_39 rfl rfl) ?_
  exact mX_mask rfl
theorem b_28_42 {d : Nat} {a0 : Nat} {x1 : Int32} {x3 : Int32} {w : MW} : mX d 28 42 [.ref a0, .int x1, mJ, .int x3, mJ] [] w = mX d 28 43 [.ref a0, .int x1, mJ, .int x3, mJ] [.int (nI 0)] w := by
  refine Eq.trans (X_iconst f_28_42 kc_i_0) ?_
  exact mX_mask rfl
theorem b_28_43 {d : Nat} {a0 : Nat} {x1 : Int32} {x3 : Int32} {y0 : Int32} {w : MW} : mX d 28 43 [.ref a0, .int x1, mJ, .int x3, mJ] [.int y0] w = mX d 28 4 [.ref a0, .int x1, .int y0, .int (x3 + (nI 1)), mJ] [] w := by
  refine Eq.trans (X_istore_n (L' := [.ref a0, .int x1, .int y0, .int x3, mJ]) f_28_43 (Nat.le_of_ble_eq_true rfl) rfl) ?_
  refine Eq.trans (X_iinc f_28_44 kc_i_1 rfl rfl) ?_
  refine Eq.trans (X_st f_28_47 rfl rfl) ?_
  exact mX_mask rfl
theorem b_28_50 {d : Nat} {a0 : Nat} {x1 : Int32} {x2 : Int32} {w : MW} : mX d 28 50 [.ref a0, .int x1, .int x2, mJ, mJ] [] w = mX d 28 52 [.ref a0, .int x1, .int x2, .int (nI 0), mJ] [] w := by
  refine Eq.trans (X_iconst f_28_50 kc_i_0) ?_
  refine Eq.trans (X_istore_n (L' := [.ref a0, .int x1, .int x2, .int (nI 0), mJ]) f_28_51 (Nat.le_of_ble_eq_true rfl) rfl) ?_
  exact mX_mask rfl
theorem b_28_52 {d : Nat} {a0 : Nat} {x1 : Int32} {x2 : Int32} {x3 : Int32} {w : MW} : mX d 28 52 [.ref a0, .int x1, .int x2, .int x3, mJ] [] w = (if (nI 6) ≤ x3 then mX d 28 102 [mJ, mJ, mJ, mJ, mJ] [] w else mX d 28 58 [.ref a0, .int x1, .int x2, .int x3, mJ] [] w) := by
  refine Eq.trans (X_st f_28_52 rfl rfl) ?_
  refine Eq.trans (X_bipush f_28_53 kc_b_6) ?_
  refine Eq.trans (X_br f_28_55 rfl rfl) ?_
  exact mIte_eq (mX_mask rfl) (mX_mask rfl)
theorem b_28_58 {d : Nat} {a0 : Nat} {x1 : Int32} {x2 : Int32} {x3 : Int32} {w : MW} : mX d 28 58 [.ref a0, .int x1, .int x2, .int x3, mJ] [] w = (if x2 = nI 0 then mX d 28 102 [mJ, mJ, mJ, mJ, mJ] [] w else mX d 28 62 [.ref a0, .int x1, .int x2, .int x3, mJ] [] w) := by
  refine Eq.trans (X_st f_28_58 rfl rfl) ?_
  refine Eq.trans (X_br f_28_59 rfl rfl) ?_
  exact mIte_eq (mX_mask rfl) (mX_mask rfl)
theorem b_28_62 {d : Nat} {a0 : Nat} {x1 : Int32} {x2 : Int32} {x3 : Int32} {w : MW} (h0 : mTg w a0 = 0) : mX (d + 1) 28 62 [.ref a0, .int x1, .int x2, .int x3, mJ] [] w = mThen (mK d 1 [.ref a0, .int x3] w) (fun v w9 => mX (d + 1) 28 67 [.ref a0, .int x1, .int x2, .int x3, mJ] (v.toList ++ []) w9) := by
  refine Eq.trans (X_st f_28_62 rfl rfl) ?_
  refine Eq.trans (X_st f_28_63 rfl rfl) ?_
  refine Eq.trans (X_call f_28_64 (by decide) rfl rfl rfl rfl rfl rfl (Nat.le_of_ble_eq_true rfl) (Nat.le_of_ble_eq_true rfl) (decide_eq_true h0) (Nat.le_of_ble_eq_true rfl)) ?_
  exact mThen_eq fun v w9 => mX_mask rfl
theorem b_28_67 {d : Nat} {a0 : Nat} {x1 : Int32} {x2 : Int32} {x3 : Int32} {b0 : Nat} {w : MW} (h0 : mTg w b0 = 4) : mX d 28 67 [.ref a0, .int x1, .int x2, .int x3, mJ] [.ref b0] w = (if (mI w b0 2) = nI 0 then mX d 28 92 [.ref a0, .int x1, .int x2, .int x3, mJ] [.ref b0] w else mX d 28 79 [.ref a0, .int x1, .int x2, .int x3, .ref b0] [.ref b0] w) := by
  refine Eq.trans (X_astore (L' := [.ref a0, .int x1, .int x2, .int x3, .ref b0]) f_28_67 (Nat.le_of_ble_eq_true rfl) rfl) ?_
  refine Eq.trans (X_st f_28_69 rfl rfl) ?_
  refine Eq.trans (X_st f_28_71 rfl rfl) ?_
  refine Eq.trans (X_getI f_28_73 h0 rfl) ?_
  refine Eq.trans (X_br f_28_76 rfl rfl) ?_
  exact mIte_eq (mX_mask rfl) (mX_mask rfl)
theorem b_28_79 {d : Nat} {a0 : Nat} {x1 : Int32} {x2 : Int32} {x3 : Int32} {a4 : Nat} {b0 : Nat} {w : MW} (h0 : mTg w a4 = 4) : mX d 28 79 [.ref a0, .int x1, .int x2, .int x3, .ref a4] [.ref b0] w = (if (mI w a4 5) < x1 then mX d 28 92 [.ref a0, .int x1, .int x2, .int x3, mJ] [.ref b0] w else mX d 28 88 [.ref a0, .int x1, .int x2, .int x3, mJ] [.ref b0] w) := by
  refine Eq.trans (X_st f_28_79 rfl rfl) ?_
  refine Eq.trans (X_getI f_28_81 h0 rfl) ?_
  refine Eq.trans (X_st f_28_84 rfl rfl) ?_
  refine Eq.trans (X_br f_28_85 rfl rfl) ?_
  exact mIte_eq (mX_mask rfl) (mX_mask rfl)
theorem b_28_88 {d : Nat} {a0 : Nat} {x1 : Int32} {x2 : Int32} {x3 : Int32} {b0 : Nat} {w : MW} : mX d 28 88 [.ref a0, .int x1, .int x2, .int x3, mJ] [.ref b0] w = mX d 28 93 [.ref a0, .int x1, .int x2, .int x3, mJ] [.int (nI 1), .ref b0] w := by
  refine Eq.trans (X_iconst f_28_88 kc_i_1) ?_
  refine Eq.trans (X_st f_28_89 rfl rfl) ?_
  exact mX_mask rfl
theorem b_28_92 {d : Nat} {a0 : Nat} {x1 : Int32} {x2 : Int32} {x3 : Int32} {b0 : Nat} {w : MW} : mX d 28 92 [.ref a0, .int x1, .int x2, .int x3, mJ] [.ref b0] w = mX d 28 93 [.ref a0, .int x1, .int x2, .int x3, mJ] [.int (nI 0), .ref b0] w := by
  refine Eq.trans (X_iconst f_28_92 kc_i_0) ?_
  exact mX_mask rfl
theorem b_28_93 {d : Nat} {a0 : Nat} {x1 : Int32} {x2 : Int32} {x3 : Int32} {y0 : Int32} {b1 : Nat} {w : MW} (h0 : mTg w b1 = 4) (h1 : mE ≤ b1) (h2 : mNar (mTy 4 2) y0 = true) : mX d 28 93 [.ref a0, .int x1, .int x2, .int x3, mJ] [.int y0, .ref b1] w = mX d 28 52 [.ref a0, .int x1, .int x2, .int (x3 + (nI 1)), mJ] [] (wI w b1 2 y0) := by
  refine Eq.trans (X_putI f_28_93 h0 h1 rfl h2) ?_
  refine Eq.trans (X_iinc f_28_96 kc_i_1 rfl rfl) ?_
  refine Eq.trans (X_st f_28_99 rfl rfl) ?_
  exact mX_mask rfl
theorem b_28_102 {d : Nat} {w : MW} : mX d 28 102 [mJ, mJ, mJ, mJ, mJ] [] w = some (.inl none, w) := by
  exact X_ret f_28_102 rfl rfl
