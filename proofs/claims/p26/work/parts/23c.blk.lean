/-! ===== BLOCKS: by program (wip/p26/blk.py) ===== -/
/-! BeeTurnpike$Teller <init> (LBeeTurnpike$Tokens;LBeeTurnpike$Told;)V -/
theorem f_61_0 : mFetch 61 0 = some (.aload_n 0, 1, []) := by decide +kernel
theorem f_61_1 : mFetch 61 1 = some (.invokespecial 3, 3, [1002, 291]) := by decide +kernel
theorem f_61_4 : mFetch 61 4 = some (.aload_n 0, 1, []) := by decide +kernel
theorem f_61_5 : mFetch 61 5 = some (.bipush 72, 2, []) := by decide +kernel
theorem f_61_7 : mFetch 61 7 = some (.newarray .int, 2, [50]) := by decide +kernel
theorem f_61_9 : mFetch 61 9 = some (.putfield 9, 3, [6, 2, 0, 294]) := by decide +kernel
theorem f_61_12 : mFetch 61 12 = some (.aload_n 0, 1, []) := by decide +kernel
theorem f_61_13 : mFetch 61 13 = some (.aload_n 1, 1, []) := by decide +kernel
theorem f_61_14 : mFetch 61 14 = some (.putfield 15, 3, [6, 0, 0, 292]) := by decide +kernel
theorem f_61_17 : mFetch 61 17 = some (.aload_n 0, 1, []) := by decide +kernel
theorem f_61_18 : mFetch 61 18 = some (.aload_n 2, 1, []) := by decide +kernel
theorem f_61_19 : mFetch 61 19 = some (.putfield 19, 3, [6, 1, 0, 293]) := by decide +kernel
theorem f_61_22 : mFetch 61 22 = some (.return_, 1, []) := by decide +kernel
theorem b_61_0 {d : Nat} {a0 : Nat} {a1 : Nat} {a2 : Nat} {w : MW} (h0 : mE ≤ a0) (h1 : mTg (wN w 50 72 72) a0 = 6) (h2 : mTg (wR (wN w 50 72 72) a0 2 (some (mSz w))) a0 = 6) (h3 : mTg (wR (wR (wN w 50 72 72) a0 2 (some (mSz w))) a0 0 (some a1)) a0 = 6) : mX d 61 0 [.ref a0, .ref a1, .ref a2] [] w = some (.inl none, wR (wR (wR (wN w 50 72 72) a0 2 (some (mSz w))) a0 0 (some a1)) a0 1 (some a2)) := by
  refine Eq.trans (X_st f_61_0 rfl rfl) ?_
  refine Eq.trans (X_st f_61_1 rfl (if_pos ⟨h0, Nat.le_of_ble_eq_true rfl⟩)) ?_
  refine Eq.trans (X_st f_61_4 rfl rfl) ?_
  refine Eq.trans (X_bipush f_61_5 kc_b_72) ?_
  refine Eq.trans (X_newa f_61_7 kn_72 kl_72 (Nat.le_of_ble_eq_true rfl)) ?_
  refine Eq.trans (X_putR f_61_9 h1 h0 rfl) ?_
  refine Eq.trans (X_st f_61_12 rfl rfl) ?_
  refine Eq.trans (X_st f_61_13 rfl rfl) ?_
  refine Eq.trans (X_putR f_61_14 h2 h0 rfl) ?_
  refine Eq.trans (X_st f_61_17 rfl rfl) ?_
  refine Eq.trans (X_st f_61_18 rfl rfl) ?_
  refine Eq.trans (X_putR f_61_19 h3 h0 rfl) ?_
  exact X_ret f_61_22 rfl rfl
theorem e_61 {d : Nat} {a0 : Nat} {a1 : Nat} {a2 : Nat} {w : MW} : mK d 61 [.ref a0, .ref a1, .ref a2] w = mX d 61 0 [.ref a0, .ref a1, .ref a2] [] w := rfl
/-! BeeTurnpike$Teller read ()I -/
theorem f_62_0 : mFetch 62 0 = some (.aload_n 0, 1, []) := by decide +kernel
theorem f_62_1 : mFetch 62 1 = some (.getfield 19, 3, [6, 1, 0, 293]) := by decide +kernel
theorem f_62_4 : mFetch 62 4 = some (.invokevirtual 23, 3, [92, 1, 2, 8, 1234, 1235, 1236]) := by decide +kernel
theorem f_62_7 : mFetch 62 7 = some (.iconst 0, 1, []) := by decide +kernel
theorem f_62_8 : mFetch 62 8 = some (.istore_n 1, 1, []) := by decide +kernel
theorem f_62_9 : mFetch 62 9 = some (.iload_n 1, 1, []) := by decide +kernel
theorem f_62_10 : mFetch 62 10 = some (.aload_n 0, 1, []) := by decide +kernel
theorem f_62_11 : mFetch 62 11 = some (.getfield 15, 3, [6, 0, 0, 292]) := by decide +kernel
theorem f_62_14 : mFetch 62 14 = some (.getfield 28, 3, [7, 6, 1, 65]) := by decide +kernel
theorem f_62_17 : mFetch 62 17 = some (.if_icmp .ge 26, 3, [43]) := by decide +kernel
theorem f_62_20 : mFetch 62 20 = some (.aload_n 0, 1, []) := by decide +kernel
theorem f_62_21 : mFetch 62 21 = some (.iload_n 1, 1, []) := by decide +kernel
theorem f_62_22 : mFetch 62 22 = some (.invokevirtual 34, 3, [63, 2, 2, 6, 1241, 1243, 51]) := by decide +kernel
theorem f_62_25 : mFetch 62 25 = some (.istore_n 2, 1, []) := by decide +kernel
theorem f_62_26 : mFetch 62 26 = some (.iload_n 2, 1, []) := by decide +kernel
theorem f_62_27 : mFetch 62 27 = some (.ifCond .eq 10, 3, [37]) := by decide +kernel
theorem f_62_30 : mFetch 62 30 = some (.aload_n 0, 1, []) := by decide +kernel
theorem f_62_31 : mFetch 62 31 = some (.iload_n 1, 1, []) := by decide +kernel
theorem f_62_32 : mFetch 62 32 = some (.putfield 38, 3, [6, 4, 0, 296]) := by decide +kernel
theorem f_62_35 : mFetch 62 35 = some (.iload_n 2, 1, []) := by decide +kernel
theorem f_62_36 : mFetch 62 36 = some (.ireturn, 1, [0]) := by decide +kernel
theorem f_62_37 : mFetch 62 37 = some (.iinc 1 1, 3, []) := by decide +kernel
theorem f_62_40 : mFetch 62 40 = some (.goto (-31), 3, [9]) := by decide +kernel
theorem f_62_43 : mFetch 62 43 = some (.aload_n 0, 1, []) := by decide +kernel
theorem f_62_44 : mFetch 62 44 = some (.getfield 19, 3, [6, 1, 0, 293]) := by decide +kernel
theorem f_62_47 : mFetch 62 47 = some (.aload_n 0, 1, []) := by decide +kernel
theorem f_62_48 : mFetch 62 48 = some (.getfield 15, 3, [6, 0, 0, 292]) := by decide +kernel
theorem f_62_51 : mFetch 62 51 = some (.invokevirtual 41, 3, [93, 2, 2, 8, 1284, 1285, 1286]) := by decide +kernel
theorem f_62_54 : mFetch 62 54 = some (.iconst 0, 1, []) := by decide +kernel
theorem f_62_55 : mFetch 62 55 = some (.ireturn, 1, [0]) := by decide +kernel
theorem b_62_0 {d : Nat} {a0 : Nat} {w : MW} (h0 : mTg w a0 = 6) (h1 : mR w a0 1 = some (gR w a0 1)) (h2 : mTg w (gR w a0 1) = 8) : mX (d + 1) 62 0 [.ref a0, mJ, mJ] [] w = mThen (mK d 92 [.ref (gR w a0 1)] w) (fun v w9 => mX (d + 1) 62 7 [.ref a0, mJ, mJ] (v.toList ++ []) w9) := by
  refine Eq.trans (X_st f_62_0 rfl rfl) ?_
  refine Eq.trans (X_getR f_62_1 h0 rfl h1) ?_
  refine Eq.trans (X_call f_62_4 (by decide) rfl rfl rfl rfl rfl rfl (Nat.le_of_ble_eq_true rfl) (Nat.le_of_ble_eq_true rfl) (decide_eq_true h2) (Nat.le_of_ble_eq_true rfl)) ?_
  exact mThen_eq fun v w9 => mX_mask rfl
theorem e_62 {d : Nat} {a0 : Nat} {w : MW} : mK d 62 [.ref a0] w = mX d 62 0 [.ref a0, mJ, mJ] [] w := rfl
theorem b_62_7 {d : Nat} {a0 : Nat} {w : MW} : mX d 62 7 [.ref a0, mJ, mJ] [] w = mX d 62 9 [.ref a0, .int (nI 0), mJ] [] w := by
  refine Eq.trans (X_iconst f_62_7 kc_i_0) ?_
  refine Eq.trans (X_istore_n (L' := [.ref a0, .int (nI 0), mJ]) f_62_8 (Nat.le_of_ble_eq_true rfl) rfl) ?_
  exact mX_mask rfl
theorem b_62_9 {d : Nat} {a0 : Nat} {x1 : Int32} {w : MW} (h0 : mTg w a0 = 6) (h1 : mR w a0 0 = some (gR w a0 0)) (h2 : mTg w (gR w a0 0) = 7) : mX d 62 9 [.ref a0, .int x1, mJ] [] w = (if (mI w (gR w a0 0) 6) ≤ x1 then mX d 62 43 [.ref a0, mJ, mJ] [] w else mX d 62 20 [.ref a0, .int x1, mJ] [] w) := by
  refine Eq.trans (X_st f_62_9 rfl rfl) ?_
  refine Eq.trans (X_st f_62_10 rfl rfl) ?_
  refine Eq.trans (X_getR f_62_11 h0 rfl h1) ?_
  refine Eq.trans (X_getI f_62_14 h2 rfl) ?_
  refine Eq.trans (X_br f_62_17 rfl rfl) ?_
  exact mIte_eq (mX_mask rfl) (mX_mask rfl)
theorem b_62_20 {d : Nat} {a0 : Nat} {x1 : Int32} {w : MW} (h0 : mTg w a0 = 6) : mX (d + 1) 62 20 [.ref a0, .int x1, mJ] [] w = mThen (mK d 63 [.ref a0, .int x1] w) (fun v w9 => mX (d + 1) 62 25 [.ref a0, .int x1, mJ] (v.toList ++ []) w9) := by
  refine Eq.trans (X_st f_62_20 rfl rfl) ?_
  refine Eq.trans (X_st f_62_21 rfl rfl) ?_
  refine Eq.trans (X_call f_62_22 (by decide) rfl rfl rfl rfl rfl rfl (Nat.le_of_ble_eq_true rfl) (Nat.le_of_ble_eq_true rfl) (decide_eq_true h0) (Nat.le_of_ble_eq_true rfl)) ?_
  exact mThen_eq fun v w9 => mX_mask rfl
theorem b_62_25 {d : Nat} {a0 : Nat} {x1 : Int32} {y0 : Int32} {w : MW} : mX d 62 25 [.ref a0, .int x1, mJ] [.int y0] w = (if y0 = nI 0 then mX d 62 37 [.ref a0, .int x1, mJ] [] w else mX d 62 30 [.ref a0, .int x1, .int y0] [] w) := by
  refine Eq.trans (X_istore_n (L' := [.ref a0, .int x1, .int y0]) f_62_25 (Nat.le_of_ble_eq_true rfl) rfl) ?_
  refine Eq.trans (X_st f_62_26 rfl rfl) ?_
  refine Eq.trans (X_br f_62_27 rfl rfl) ?_
  exact mIte_eq (mX_mask rfl) (mX_mask rfl)
theorem b_62_30 {d : Nat} {a0 : Nat} {x1 : Int32} {x2 : Int32} {w : MW} (h0 : mTg w a0 = 6) (h1 : mE ≤ a0) : mX d 62 30 [.ref a0, .int x1, .int x2] [] w = some (.inl (some (.int x2)), wI w a0 4 x1) := by
  refine Eq.trans (X_st f_62_30 rfl rfl) ?_
  refine Eq.trans (X_st f_62_31 rfl rfl) ?_
  refine Eq.trans (X_putI f_62_32 h0 h1 rfl rfl) ?_
  refine Eq.trans (X_st f_62_35 rfl rfl) ?_
  exact X_ireturn f_62_36 rfl
theorem b_62_37 {d : Nat} {a0 : Nat} {x1 : Int32} {w : MW} : mX d 62 37 [.ref a0, .int x1, mJ] [] w = mX d 62 9 [.ref a0, .int (x1 + (nI 1)), mJ] [] w := by
  refine Eq.trans (X_iinc f_62_37 kc_i_1 rfl rfl) ?_
  refine Eq.trans (X_st f_62_40 rfl rfl) ?_
  exact mX_mask rfl
theorem b_62_43 {d : Nat} {a0 : Nat} {w : MW} (h0 : mTg w a0 = 6) (h1 : mR w a0 1 = some (gR w a0 1)) (h2 : mR w a0 0 = some (gR w a0 0)) (h3 : mTg w (gR w a0 1) = 8) : mX (d + 1) 62 43 [.ref a0, mJ, mJ] [] w = mThen (mK d 93 [.ref (gR w a0 1), .ref (gR w a0 0)] w) (fun v w9 => mX (d + 1) 62 54 [mJ, mJ, mJ] (v.toList ++ []) w9) := by
  refine Eq.trans (X_st f_62_43 rfl rfl) ?_
  refine Eq.trans (X_getR f_62_44 h0 rfl h1) ?_
  refine Eq.trans (X_st f_62_47 rfl rfl) ?_
  refine Eq.trans (X_getR f_62_48 h0 rfl h2) ?_
  refine Eq.trans (X_call f_62_51 (by decide) rfl rfl rfl rfl rfl rfl (Nat.le_of_ble_eq_true rfl) (Nat.le_of_ble_eq_true rfl) (decide_eq_true h3) (Nat.le_of_ble_eq_true rfl)) ?_
  exact mThen_eq fun v w9 => mX_mask rfl
theorem b_62_54 {d : Nat} {w : MW} : mX d 62 54 [mJ, mJ, mJ] [] w = some (.inl (some (.int (nI 0))), w) := by
  refine Eq.trans (X_iconst f_62_54 kc_i_0) ?_
  exact X_ireturn f_62_55 rfl
/-! BeeTurnpike$Teller look (I)I -/
theorem f_63_0 : mFetch 63 0 = some (.aload_n 0, 1, []) := by decide +kernel
theorem f_63_1 : mFetch 63 1 = some (.getfield 15, 3, [6, 0, 0, 292]) := by decide +kernel
theorem f_63_4 : mFetch 63 4 = some (.getfield 45, 3, [7, 4, 1, 66]) := by decide +kernel
theorem f_63_7 : mFetch 63 7 = some (.iload_n 1, 1, []) := by decide +kernel
theorem f_63_8 : mFetch 63 8 = some (.invokestatic 48, 3, [123, 2, 1, 0, 67, 559]) := by decide +kernel
theorem f_63_11 : mFetch 63 11 = some (.istore_n 2, 1, []) := by decide +kernel
theorem f_63_12 : mFetch 63 12 = some (.iload_n 2, 1, []) := by decide +kernel
theorem f_63_13 : mFetch 63 13 = some (.bipush 14, 2, []) := by decide +kernel
theorem f_63_15 : mFetch 63 15 = some (.if_icmp .lt 10, 3, [25]) := by decide +kernel
theorem f_63_18 : mFetch 63 18 = some (.aload_n 0, 1, []) := by decide +kernel
theorem f_63_19 : mFetch 63 19 = some (.iload_n 1, 1, []) := by decide +kernel
theorem f_63_20 : mFetch 63 20 = some (.iload_n 2, 1, []) := by decide +kernel
theorem f_63_21 : mFetch 63 21 = some (.invokevirtual 52, 3, [64, 3, 2, 6, 1246, 1248, 52]) := by decide +kernel
theorem f_63_24 : mFetch 63 24 = some (.ireturn, 1, [0]) := by decide +kernel
theorem f_63_25 : mFetch 63 25 = some (.iload_n 2, 1, []) := by decide +kernel
theorem f_63_26 : mFetch 63 26 = some (.tableswitch 261 1 13 #[66, 74, 83, 92, 101, 109, 115, 134, 157, 184, 212, 231, 246], 66, [287, 92, 100, 109, 118, 127, 135, 141, 160, 183, 210, 238, 257, 272]) := by decide +kernel
theorem f_63_92 : mFetch 63 92 = some (.aload_n 0, 1, []) := by decide +kernel
theorem f_63_93 : mFetch 63 93 = some (.iconst 0, 1, []) := by decide +kernel
theorem f_63_94 : mFetch 63 94 = some (.iconst 5, 1, []) := by decide +kernel
theorem f_63_95 : mFetch 63 95 = some (.iload_n 1, 1, []) := by decide +kernel
theorem f_63_96 : mFetch 63 96 = some (.invokevirtual 56, 3, [67, 4, 2, 6, 1259, 1261, 55]) := by decide +kernel
theorem f_63_99 : mFetch 63 99 = some (.ireturn, 1, [0]) := by decide +kernel
theorem f_63_100 : mFetch 63 100 = some (.aload_n 0, 1, []) := by decide +kernel
theorem f_63_101 : mFetch 63 101 = some (.iconst 1, 1, []) := by decide +kernel
theorem f_63_102 : mFetch 63 102 = some (.bipush 10, 2, []) := by decide +kernel
theorem f_63_104 : mFetch 63 104 = some (.iload_n 1, 1, []) := by decide +kernel
theorem f_63_105 : mFetch 63 105 = some (.invokevirtual 56, 3, [67, 4, 2, 6, 1259, 1261, 55]) := by decide +kernel
theorem f_63_108 : mFetch 63 108 = some (.ireturn, 1, [0]) := by decide +kernel
theorem f_63_109 : mFetch 63 109 = some (.aload_n 0, 1, []) := by decide +kernel
theorem f_63_110 : mFetch 63 110 = some (.iconst 2, 1, []) := by decide +kernel
theorem f_63_111 : mFetch 63 111 = some (.bipush 12, 2, []) := by decide +kernel
theorem f_63_113 : mFetch 63 113 = some (.iload_n 1, 1, []) := by decide +kernel
theorem f_63_114 : mFetch 63 114 = some (.invokevirtual 56, 3, [67, 4, 2, 6, 1259, 1261, 55]) := by decide +kernel
theorem f_63_117 : mFetch 63 117 = some (.ireturn, 1, [0]) := by decide +kernel
theorem f_63_118 : mFetch 63 118 = some (.aload_n 0, 1, []) := by decide +kernel
theorem f_63_119 : mFetch 63 119 = some (.iconst 3, 1, []) := by decide +kernel
theorem f_63_120 : mFetch 63 120 = some (.bipush 6, 2, []) := by decide +kernel
theorem f_63_122 : mFetch 63 122 = some (.iload_n 1, 1, []) := by decide +kernel
theorem f_63_123 : mFetch 63 123 = some (.invokevirtual 56, 3, [67, 4, 2, 6, 1259, 1261, 55]) := by decide +kernel
theorem f_63_126 : mFetch 63 126 = some (.ireturn, 1, [0]) := by decide +kernel
theorem f_63_127 : mFetch 63 127 = some (.aload_n 0, 1, []) := by decide +kernel
theorem f_63_128 : mFetch 63 128 = some (.iconst 4, 1, []) := by decide +kernel
theorem f_63_129 : mFetch 63 129 = some (.iconst 5, 1, []) := by decide +kernel
theorem f_63_130 : mFetch 63 130 = some (.iload_n 1, 1, []) := by decide +kernel
theorem f_63_131 : mFetch 63 131 = some (.invokevirtual 56, 3, [67, 4, 2, 6, 1259, 1261, 55]) := by decide +kernel
theorem f_63_134 : mFetch 63 134 = some (.ireturn, 1, [0]) := by decide +kernel
theorem f_63_135 : mFetch 63 135 = some (.aload_n 0, 1, []) := by decide +kernel
theorem f_63_136 : mFetch 63 136 = some (.iload_n 1, 1, []) := by decide +kernel
theorem f_63_137 : mFetch 63 137 = some (.invokevirtual 60, 3, [68, 2, 2, 6, 1272, 1274, 57]) := by decide +kernel
theorem f_63_140 : mFetch 63 140 = some (.ireturn, 1, [0]) := by decide +kernel
theorem f_63_141 : mFetch 63 141 = some (.aload_n 0, 1, []) := by decide +kernel
theorem f_63_142 : mFetch 63 142 = some (.iconst 0, 1, []) := by decide +kernel
theorem f_63_143 : mFetch 63 143 = some (.iload_n 1, 1, []) := by decide +kernel
theorem f_63_144 : mFetch 63 144 = some (.aload_n 0, 1, []) := by decide +kernel
theorem f_63_145 : mFetch 63 145 = some (.getfield 19, 3, [6, 1, 0, 293]) := by decide +kernel
theorem f_63_148 : mFetch 63 148 = some (.getfield 63, 3, [8, 2, 1, 68]) := by decide +kernel
theorem f_63_151 : mFetch 63 151 = some (.aload_n 0, 1, []) := by decide +kernel
theorem f_63_152 : mFetch 63 152 = some (.iconst 1, 1, []) := by decide +kernel
theorem f_63_153 : mFetch 63 153 = some (.invokevirtual 66, 3, [65, 2, 2, 6, 1250, 1252, 53]) := by decide +kernel
theorem f_63_156 : mFetch 63 156 = some (.invokevirtual 69, 3, [69, 5, 2, 6, 1276, 1278, 58]) := by decide +kernel
theorem f_63_159 : mFetch 63 159 = some (.ireturn, 1, [0]) := by decide +kernel
theorem f_63_160 : mFetch 63 160 = some (.aload_n 0, 1, []) := by decide +kernel
theorem f_63_161 : mFetch 63 161 = some (.aload_n 0, 1, []) := by decide +kernel
theorem f_63_162 : mFetch 63 162 = some (.iconst 0, 1, []) := by decide +kernel
theorem f_63_163 : mFetch 63 163 = some (.iload_n 1, 1, []) := by decide +kernel
theorem f_63_164 : mFetch 63 164 = some (.invokevirtual 73, 3, [66, 3, 2, 6, 1263, 1265, 56]) := by decide +kernel
theorem f_63_167 : mFetch 63 167 = some (.putfield 76, 3, [6, 3, 0, 295]) := by decide +kernel
theorem f_63_170 : mFetch 63 170 = some (.aload_n 0, 1, []) := by decide +kernel
theorem f_63_171 : mFetch 63 171 = some (.getfield 76, 3, [6, 3, 0, 295]) := by decide +kernel
theorem f_63_174 : mFetch 63 174 = some (.ifCond .ge 7, 3, [181]) := by decide +kernel
theorem f_63_177 : mFetch 63 177 = some (.iconst 3, 1, []) := by decide +kernel
theorem f_63_178 : mFetch 63 178 = some (.goto 4, 3, [182]) := by decide +kernel
theorem f_63_181 : mFetch 63 181 = some (.iconst 0, 1, []) := by decide +kernel
theorem f_63_182 : mFetch 63 182 = some (.ireturn, 1, [0]) := by decide +kernel
theorem f_63_183 : mFetch 63 183 = some (.aload_n 0, 1, []) := by decide +kernel
theorem f_63_184 : mFetch 63 184 = some (.iconst 1, 1, []) := by decide +kernel
theorem f_63_185 : mFetch 63 185 = some (.iload_n 1, 1, []) := by decide +kernel
theorem f_63_186 : mFetch 63 186 = some (.aload_n 0, 1, []) := by decide +kernel
theorem f_63_187 : mFetch 63 187 = some (.getfield 19, 3, [6, 1, 0, 293]) := by decide +kernel
theorem f_63_190 : mFetch 63 190 = some (.getfield 79, 3, [8, 6, 1, 69]) := by decide +kernel
theorem f_63_193 : mFetch 63 193 = some (.aload_n 0, 1, []) := by decide +kernel
theorem f_63_194 : mFetch 63 194 = some (.getfield 19, 3, [6, 1, 0, 293]) := by decide +kernel
theorem f_63_197 : mFetch 63 197 = some (.getfield 82, 3, [8, 5, 1, 70]) := by decide +kernel
theorem f_63_200 : mFetch 63 200 = some (.aload_n 0, 1, []) := by decide +kernel
theorem f_63_201 : mFetch 63 201 = some (.iconst 2, 1, []) := by decide +kernel
theorem f_63_202 : mFetch 63 202 = some (.invokevirtual 66, 3, [65, 2, 2, 6, 1250, 1252, 53]) := by decide +kernel
theorem f_63_205 : mFetch 63 205 = some (.iconst 4, 1, []) := by decide +kernel
theorem f_63_206 : mFetch 63 206 = some (.invokevirtual 85, 3, [70, 7, 2, 6, 1280, 1282, 59]) := by decide +kernel
theorem f_63_209 : mFetch 63 209 = some (.ireturn, 1, [0]) := by decide +kernel
theorem f_63_210 : mFetch 63 210 = some (.aload_n 0, 1, []) := by decide +kernel
theorem f_63_211 : mFetch 63 211 = some (.iconst 2, 1, []) := by decide +kernel
theorem f_63_212 : mFetch 63 212 = some (.iload_n 1, 1, []) := by decide +kernel
theorem f_63_213 : mFetch 63 213 = some (.aload_n 0, 1, []) := by decide +kernel
theorem f_63_214 : mFetch 63 214 = some (.getfield 19, 3, [6, 1, 0, 293]) := by decide +kernel
theorem f_63_217 : mFetch 63 217 = some (.getfield 89, 3, [8, 13, 1, 71]) := by decide +kernel
theorem f_63_220 : mFetch 63 220 = some (.aload_n 0, 1, []) := by decide +kernel
theorem f_63_221 : mFetch 63 221 = some (.getfield 19, 3, [6, 1, 0, 293]) := by decide +kernel
theorem f_63_224 : mFetch 63 224 = some (.getfield 92, 3, [8, 12, 1, 72]) := by decide +kernel
theorem f_63_227 : mFetch 63 227 = some (.aload_n 0, 1, []) := by decide +kernel
theorem f_63_228 : mFetch 63 228 = some (.iconst 4, 1, []) := by decide +kernel
theorem f_63_229 : mFetch 63 229 = some (.invokevirtual 66, 3, [65, 2, 2, 6, 1250, 1252, 53]) := by decide +kernel
theorem f_63_232 : mFetch 63 232 = some (.bipush 8, 2, []) := by decide +kernel
theorem f_63_234 : mFetch 63 234 = some (.invokevirtual 85, 3, [70, 7, 2, 6, 1280, 1282, 59]) := by decide +kernel
theorem f_63_237 : mFetch 63 237 = some (.ireturn, 1, [0]) := by decide +kernel
theorem f_63_238 : mFetch 63 238 = some (.aload_n 0, 1, []) := by decide +kernel
theorem f_63_239 : mFetch 63 239 = some (.iconst 3, 1, []) := by decide +kernel
theorem f_63_240 : mFetch 63 240 = some (.iload_n 1, 1, []) := by decide +kernel
theorem f_63_241 : mFetch 63 241 = some (.aload_n 0, 1, []) := by decide +kernel
theorem f_63_242 : mFetch 63 242 = some (.getfield 19, 3, [6, 1, 0, 293]) := by decide +kernel
theorem f_63_245 : mFetch 63 245 = some (.getfield 95, 3, [8, 15, 1, 73]) := by decide +kernel
theorem f_63_248 : mFetch 63 248 = some (.aload_n 0, 1, []) := by decide +kernel
theorem f_63_249 : mFetch 63 249 = some (.iconst 5, 1, []) := by decide +kernel
theorem f_63_250 : mFetch 63 250 = some (.invokevirtual 66, 3, [65, 2, 2, 6, 1250, 1252, 53]) := by decide +kernel
theorem f_63_253 : mFetch 63 253 = some (.invokevirtual 69, 3, [69, 5, 2, 6, 1276, 1278, 58]) := by decide +kernel
theorem f_63_256 : mFetch 63 256 = some (.ireturn, 1, [0]) := by decide +kernel
theorem f_63_257 : mFetch 63 257 = some (.aload_n 0, 1, []) := by decide +kernel
theorem f_63_258 : mFetch 63 258 = some (.iconst 3, 1, []) := by decide +kernel
theorem f_63_259 : mFetch 63 259 = some (.iload_n 1, 1, []) := by decide +kernel
theorem f_63_260 : mFetch 63 260 = some (.aload_n 0, 1, []) := by decide +kernel
theorem f_63_261 : mFetch 63 261 = some (.getfield 15, 3, [6, 0, 0, 292]) := by decide +kernel
theorem f_63_264 : mFetch 63 264 = some (.getfield 98, 3, [7, 5, 1, 74]) := by decide +kernel
theorem f_63_267 : mFetch 63 267 = some (.iload_n 1, 1, []) := by decide +kernel
theorem f_63_268 : mFetch 63 268 = some (.invokevirtual 69, 3, [69, 5, 2, 6, 1276, 1278, 58]) := by decide +kernel
theorem f_63_271 : mFetch 63 271 = some (.ireturn, 1, [0]) := by decide +kernel
theorem f_63_272 : mFetch 63 272 = some (.aload_n 0, 1, []) := by decide +kernel
theorem f_63_273 : mFetch 63 273 = some (.iconst 2, 1, []) := by decide +kernel
theorem f_63_274 : mFetch 63 274 = some (.iload_n 1, 1, []) := by decide +kernel
theorem f_63_275 : mFetch 63 275 = some (.aload_n 0, 1, []) := by decide +kernel
theorem f_63_276 : mFetch 63 276 = some (.getfield 15, 3, [6, 0, 0, 292]) := by decide +kernel
theorem f_63_279 : mFetch 63 279 = some (.getfield 98, 3, [7, 5, 1, 74]) := by decide +kernel
theorem f_63_282 : mFetch 63 282 = some (.iload_n 1, 1, []) := by decide +kernel
theorem f_63_283 : mFetch 63 283 = some (.invokevirtual 69, 3, [69, 5, 2, 6, 1276, 1278, 58]) := by decide +kernel
theorem f_63_286 : mFetch 63 286 = some (.ireturn, 1, [0]) := by decide +kernel
theorem f_63_287 : mFetch 63 287 = some (.iconst 0, 1, []) := by decide +kernel
theorem f_63_288 : mFetch 63 288 = some (.ireturn, 1, [0]) := by decide +kernel
theorem b_63_0 {d : Nat} {a0 : Nat} {x1 : Int32} {w : MW} (h0 : mTg w a0 = 6) (h1 : mR w a0 0 = some (gR w a0 0)) (h2 : mTg w (gR w a0 0) = 7) (h3 : mR w (gR w a0 0) 4 = some (gR w (gR w a0 0) 4)) : mX (d + 1) 63 0 [.ref a0, .int x1, mJ] [] w = mThen (mK d 123 [.ref (gR w (gR w a0 0) 4), .int x1] w) (fun v w9 => mX (d + 1) 63 11 [.ref a0, .int x1, mJ] (v.toList ++ []) w9) := by
  refine Eq.trans (X_st f_63_0 rfl rfl) ?_
  refine Eq.trans (X_getR f_63_1 h0 rfl h1) ?_
  refine Eq.trans (X_getR f_63_4 h2 rfl h3) ?_
  refine Eq.trans (X_st f_63_7 rfl rfl) ?_
  refine Eq.trans (X_call f_63_8 (by decide) rfl rfl rfl rfl rfl rfl (Nat.le_of_ble_eq_true rfl) (Nat.le_of_ble_eq_true rfl) rfl (Nat.le_of_ble_eq_true rfl)) ?_
  exact mThen_eq fun v w9 => mX_mask rfl
theorem e_63 {d : Nat} {a0 : Nat} {x1 : Int32} {w : MW} : mK d 63 [.ref a0, .int x1] w = mX d 63 0 [.ref a0, .int x1, mJ] [] w := rfl
theorem b_63_11 {d : Nat} {a0 : Nat} {x1 : Int32} {y0 : Int32} {w : MW} : mX d 63 11 [.ref a0, .int x1, mJ] [.int y0] w = (if y0 < (nI 14) then mX d 63 25 [.ref a0, .int x1, .int y0] [] w else mX d 63 18 [.ref a0, .int x1, .int y0] [] w) := by
  refine Eq.trans (X_istore_n (L' := [.ref a0, .int x1, .int y0]) f_63_11 (Nat.le_of_ble_eq_true rfl) rfl) ?_
  refine Eq.trans (X_st f_63_12 rfl rfl) ?_
  refine Eq.trans (X_bipush f_63_13 kc_b_14) ?_
  refine Eq.trans (X_br f_63_15 rfl rfl) ?_
  exact mIte_eq (mX_mask rfl) (mX_mask rfl)
theorem b_63_18 {d : Nat} {a0 : Nat} {x1 : Int32} {x2 : Int32} {w : MW} (h0 : mTg w a0 = 6) : mX (d + 1) 63 18 [.ref a0, .int x1, .int x2] [] w = mThen (mK d 64 [.ref a0, .int x1, .int x2] w) (fun v w9 => mX (d + 1) 63 24 [mJ, mJ, mJ] (v.toList ++ []) w9) := by
  refine Eq.trans (X_st f_63_18 rfl rfl) ?_
  refine Eq.trans (X_st f_63_19 rfl rfl) ?_
  refine Eq.trans (X_st f_63_20 rfl rfl) ?_
  refine Eq.trans (X_call f_63_21 (by decide) rfl rfl rfl rfl rfl rfl (Nat.le_of_ble_eq_true rfl) (Nat.le_of_ble_eq_true rfl) (decide_eq_true h0) (Nat.le_of_ble_eq_true rfl)) ?_
  exact mThen_eq fun v w9 => mX_mask rfl
theorem b_63_24 {d : Nat} {y0 : Int32} {w : MW} : mX d 63 24 [mJ, mJ, mJ] [.int y0] w = some (.inl (some (.int y0)), w) := by
  exact X_ireturn f_63_24 rfl
theorem s_63_25_1 {d : Nat} {a0 : Nat} {x1 : Int32} {x2 : Int32} {w : MW} (h0 : x2 = (nI 1)) : mX d 63 25 [.ref a0, .int x1, .int x2] [] w = mX d 63 92 [.ref a0, .int x1, mJ] [] w := by
  refine Eq.trans (X_st f_63_25 rfl rfl) ?_
  refine Eq.trans (X_sw f_63_26 rfl (congrArg Value.int h0) rfl) ?_
  exact mX_mask rfl
theorem s_63_25_2 {d : Nat} {a0 : Nat} {x1 : Int32} {x2 : Int32} {w : MW} (h0 : x2 = (nI 2)) : mX d 63 25 [.ref a0, .int x1, .int x2] [] w = mX d 63 100 [.ref a0, .int x1, mJ] [] w := by
  refine Eq.trans (X_st f_63_25 rfl rfl) ?_
  refine Eq.trans (X_sw f_63_26 rfl (congrArg Value.int h0) rfl) ?_
  exact mX_mask rfl
theorem s_63_25_3 {d : Nat} {a0 : Nat} {x1 : Int32} {x2 : Int32} {w : MW} (h0 : x2 = (nI 3)) : mX d 63 25 [.ref a0, .int x1, .int x2] [] w = mX d 63 109 [.ref a0, .int x1, mJ] [] w := by
  refine Eq.trans (X_st f_63_25 rfl rfl) ?_
  refine Eq.trans (X_sw f_63_26 rfl (congrArg Value.int h0) rfl) ?_
  exact mX_mask rfl
theorem s_63_25_4 {d : Nat} {a0 : Nat} {x1 : Int32} {x2 : Int32} {w : MW} (h0 : x2 = (nI 4)) : mX d 63 25 [.ref a0, .int x1, .int x2] [] w = mX d 63 118 [.ref a0, .int x1, mJ] [] w := by
  refine Eq.trans (X_st f_63_25 rfl rfl) ?_
  refine Eq.trans (X_sw f_63_26 rfl (congrArg Value.int h0) rfl) ?_
  exact mX_mask rfl
theorem s_63_25_5 {d : Nat} {a0 : Nat} {x1 : Int32} {x2 : Int32} {w : MW} (h0 : x2 = (nI 5)) : mX d 63 25 [.ref a0, .int x1, .int x2] [] w = mX d 63 127 [.ref a0, .int x1, mJ] [] w := by
  refine Eq.trans (X_st f_63_25 rfl rfl) ?_
  refine Eq.trans (X_sw f_63_26 rfl (congrArg Value.int h0) rfl) ?_
  exact mX_mask rfl
theorem s_63_25_6 {d : Nat} {a0 : Nat} {x1 : Int32} {x2 : Int32} {w : MW} (h0 : x2 = (nI 6)) : mX d 63 25 [.ref a0, .int x1, .int x2] [] w = mX d 63 135 [.ref a0, .int x1, mJ] [] w := by
  refine Eq.trans (X_st f_63_25 rfl rfl) ?_
  refine Eq.trans (X_sw f_63_26 rfl (congrArg Value.int h0) rfl) ?_
  exact mX_mask rfl
theorem s_63_25_7 {d : Nat} {a0 : Nat} {x1 : Int32} {x2 : Int32} {w : MW} (h0 : x2 = (nI 7)) : mX d 63 25 [.ref a0, .int x1, .int x2] [] w = mX d 63 141 [.ref a0, .int x1, mJ] [] w := by
  refine Eq.trans (X_st f_63_25 rfl rfl) ?_
  refine Eq.trans (X_sw f_63_26 rfl (congrArg Value.int h0) rfl) ?_
  exact mX_mask rfl
theorem s_63_25_8 {d : Nat} {a0 : Nat} {x1 : Int32} {x2 : Int32} {w : MW} (h0 : x2 = (nI 8)) : mX d 63 25 [.ref a0, .int x1, .int x2] [] w = mX d 63 160 [.ref a0, .int x1, mJ] [] w := by
  refine Eq.trans (X_st f_63_25 rfl rfl) ?_
  refine Eq.trans (X_sw f_63_26 rfl (congrArg Value.int h0) rfl) ?_
  exact mX_mask rfl
theorem s_63_25_9 {d : Nat} {a0 : Nat} {x1 : Int32} {x2 : Int32} {w : MW} (h0 : x2 = (nI 9)) : mX d 63 25 [.ref a0, .int x1, .int x2] [] w = mX d 63 183 [.ref a0, .int x1, mJ] [] w := by
  refine Eq.trans (X_st f_63_25 rfl rfl) ?_
  refine Eq.trans (X_sw f_63_26 rfl (congrArg Value.int h0) rfl) ?_
  exact mX_mask rfl
theorem s_63_25_10 {d : Nat} {a0 : Nat} {x1 : Int32} {x2 : Int32} {w : MW} (h0 : x2 = (nI 10)) : mX d 63 25 [.ref a0, .int x1, .int x2] [] w = mX d 63 210 [.ref a0, .int x1, mJ] [] w := by
  refine Eq.trans (X_st f_63_25 rfl rfl) ?_
  refine Eq.trans (X_sw f_63_26 rfl (congrArg Value.int h0) rfl) ?_
  exact mX_mask rfl
theorem s_63_25_11 {d : Nat} {a0 : Nat} {x1 : Int32} {x2 : Int32} {w : MW} (h0 : x2 = (nI 11)) : mX d 63 25 [.ref a0, .int x1, .int x2] [] w = mX d 63 238 [.ref a0, .int x1, mJ] [] w := by
  refine Eq.trans (X_st f_63_25 rfl rfl) ?_
  refine Eq.trans (X_sw f_63_26 rfl (congrArg Value.int h0) rfl) ?_
  exact mX_mask rfl
theorem s_63_25_12 {d : Nat} {a0 : Nat} {x1 : Int32} {x2 : Int32} {w : MW} (h0 : x2 = (nI 12)) : mX d 63 25 [.ref a0, .int x1, .int x2] [] w = mX d 63 257 [.ref a0, .int x1, mJ] [] w := by
  refine Eq.trans (X_st f_63_25 rfl rfl) ?_
  refine Eq.trans (X_sw f_63_26 rfl (congrArg Value.int h0) rfl) ?_
  exact mX_mask rfl
theorem s_63_25_13 {d : Nat} {a0 : Nat} {x1 : Int32} {x2 : Int32} {w : MW} (h0 : x2 = (nI 13)) : mX d 63 25 [.ref a0, .int x1, .int x2] [] w = mX d 63 272 [.ref a0, .int x1, mJ] [] w := by
  refine Eq.trans (X_st f_63_25 rfl rfl) ?_
  refine Eq.trans (X_sw f_63_26 rfl (congrArg Value.int h0) rfl) ?_
  exact mX_mask rfl
theorem s_63_25_d {d : Nat} {a0 : Nat} {x1 : Int32} {x2 : Int32} {w : MW} (h0 : (x2).toInt < 1 ∨ 13 < (x2).toInt) : mX d 63 25 [.ref a0, .int x1, .int x2] [] w = mX d 63 287 [mJ, mJ, mJ] [] w := by
  refine Eq.trans (X_st f_63_25 rfl rfl) ?_
  refine Eq.trans (X_swD f_63_26 h0 rfl) ?_
  exact mX_mask rfl
theorem b_63_92 {d : Nat} {a0 : Nat} {x1 : Int32} {w : MW} (h0 : mTg w a0 = 6) : mX (d + 1) 63 92 [.ref a0, .int x1, mJ] [] w = mThen (mK d 67 [.ref a0, .int (nI 0), .int (nI 5), .int x1] w) (fun v w9 => mX (d + 1) 63 99 [mJ, mJ, mJ] (v.toList ++ []) w9) := by
  refine Eq.trans (X_st f_63_92 rfl rfl) ?_
  refine Eq.trans (X_iconst f_63_93 kc_i_0) ?_
  refine Eq.trans (X_iconst f_63_94 kc_i_5) ?_
  refine Eq.trans (X_st f_63_95 rfl rfl) ?_
  refine Eq.trans (X_call f_63_96 (by decide) rfl rfl rfl rfl rfl rfl (Nat.le_of_ble_eq_true rfl) (Nat.le_of_ble_eq_true rfl) (decide_eq_true h0) (Nat.le_of_ble_eq_true rfl)) ?_
  exact mThen_eq fun v w9 => mX_mask rfl
theorem b_63_99 {d : Nat} {y0 : Int32} {w : MW} : mX d 63 99 [mJ, mJ, mJ] [.int y0] w = some (.inl (some (.int y0)), w) := by
  exact X_ireturn f_63_99 rfl
theorem b_63_100 {d : Nat} {a0 : Nat} {x1 : Int32} {w : MW} (h0 : mTg w a0 = 6) : mX (d + 1) 63 100 [.ref a0, .int x1, mJ] [] w = mThen (mK d 67 [.ref a0, .int (nI 1), .int (nI 10), .int x1] w) (fun v w9 => mX (d + 1) 63 108 [mJ, mJ, mJ] (v.toList ++ []) w9) := by
  refine Eq.trans (X_st f_63_100 rfl rfl) ?_
  refine Eq.trans (X_iconst f_63_101 kc_i_1) ?_
  refine Eq.trans (X_bipush f_63_102 kc_b_10) ?_
  refine Eq.trans (X_st f_63_104 rfl rfl) ?_
  refine Eq.trans (X_call f_63_105 (by decide) rfl rfl rfl rfl rfl rfl (Nat.le_of_ble_eq_true rfl) (Nat.le_of_ble_eq_true rfl) (decide_eq_true h0) (Nat.le_of_ble_eq_true rfl)) ?_
  exact mThen_eq fun v w9 => mX_mask rfl
theorem b_63_108 {d : Nat} {y0 : Int32} {w : MW} : mX d 63 108 [mJ, mJ, mJ] [.int y0] w = some (.inl (some (.int y0)), w) := by
  exact X_ireturn f_63_108 rfl
theorem b_63_109 {d : Nat} {a0 : Nat} {x1 : Int32} {w : MW} (h0 : mTg w a0 = 6) : mX (d + 1) 63 109 [.ref a0, .int x1, mJ] [] w = mThen (mK d 67 [.ref a0, .int (nI 2), .int (nI 12), .int x1] w) (fun v w9 => mX (d + 1) 63 117 [mJ, mJ, mJ] (v.toList ++ []) w9) := by
  refine Eq.trans (X_st f_63_109 rfl rfl) ?_
  refine Eq.trans (X_iconst f_63_110 kc_i_2) ?_
  refine Eq.trans (X_bipush f_63_111 kc_b_12) ?_
  refine Eq.trans (X_st f_63_113 rfl rfl) ?_
  refine Eq.trans (X_call f_63_114 (by decide) rfl rfl rfl rfl rfl rfl (Nat.le_of_ble_eq_true rfl) (Nat.le_of_ble_eq_true rfl) (decide_eq_true h0) (Nat.le_of_ble_eq_true rfl)) ?_
  exact mThen_eq fun v w9 => mX_mask rfl
theorem b_63_117 {d : Nat} {y0 : Int32} {w : MW} : mX d 63 117 [mJ, mJ, mJ] [.int y0] w = some (.inl (some (.int y0)), w) := by
  exact X_ireturn f_63_117 rfl
theorem b_63_118 {d : Nat} {a0 : Nat} {x1 : Int32} {w : MW} (h0 : mTg w a0 = 6) : mX (d + 1) 63 118 [.ref a0, .int x1, mJ] [] w = mThen (mK d 67 [.ref a0, .int (nI 3), .int (nI 6), .int x1] w) (fun v w9 => mX (d + 1) 63 126 [mJ, mJ, mJ] (v.toList ++ []) w9) := by
  refine Eq.trans (X_st f_63_118 rfl rfl) ?_
  refine Eq.trans (X_iconst f_63_119 kc_i_3) ?_
  refine Eq.trans (X_bipush f_63_120 kc_b_6) ?_
  refine Eq.trans (X_st f_63_122 rfl rfl) ?_
  refine Eq.trans (X_call f_63_123 (by decide) rfl rfl rfl rfl rfl rfl (Nat.le_of_ble_eq_true rfl) (Nat.le_of_ble_eq_true rfl) (decide_eq_true h0) (Nat.le_of_ble_eq_true rfl)) ?_
  exact mThen_eq fun v w9 => mX_mask rfl
theorem b_63_126 {d : Nat} {y0 : Int32} {w : MW} : mX d 63 126 [mJ, mJ, mJ] [.int y0] w = some (.inl (some (.int y0)), w) := by
  exact X_ireturn f_63_126 rfl
theorem b_63_127 {d : Nat} {a0 : Nat} {x1 : Int32} {w : MW} (h0 : mTg w a0 = 6) : mX (d + 1) 63 127 [.ref a0, .int x1, mJ] [] w = mThen (mK d 67 [.ref a0, .int (nI 4), .int (nI 5), .int x1] w) (fun v w9 => mX (d + 1) 63 134 [mJ, mJ, mJ] (v.toList ++ []) w9) := by
  refine Eq.trans (X_st f_63_127 rfl rfl) ?_
  refine Eq.trans (X_iconst f_63_128 kc_i_4) ?_
  refine Eq.trans (X_iconst f_63_129 kc_i_5) ?_
  refine Eq.trans (X_st f_63_130 rfl rfl) ?_
  refine Eq.trans (X_call f_63_131 (by decide) rfl rfl rfl rfl rfl rfl (Nat.le_of_ble_eq_true rfl) (Nat.le_of_ble_eq_true rfl) (decide_eq_true h0) (Nat.le_of_ble_eq_true rfl)) ?_
  exact mThen_eq fun v w9 => mX_mask rfl
theorem b_63_134 {d : Nat} {y0 : Int32} {w : MW} : mX d 63 134 [mJ, mJ, mJ] [.int y0] w = some (.inl (some (.int y0)), w) := by
  exact X_ireturn f_63_134 rfl
theorem b_63_135 {d : Nat} {a0 : Nat} {x1 : Int32} {w : MW} (h0 : mTg w a0 = 6) : mX (d + 1) 63 135 [.ref a0, .int x1, mJ] [] w = mThen (mK d 68 [.ref a0, .int x1] w) (fun v w9 => mX (d + 1) 63 140 [mJ, mJ, mJ] (v.toList ++ []) w9) := by
  refine Eq.trans (X_st f_63_135 rfl rfl) ?_
  refine Eq.trans (X_st f_63_136 rfl rfl) ?_
  refine Eq.trans (X_call f_63_137 (by decide) rfl rfl rfl rfl rfl rfl (Nat.le_of_ble_eq_true rfl) (Nat.le_of_ble_eq_true rfl) (decide_eq_true h0) (Nat.le_of_ble_eq_true rfl)) ?_
  exact mThen_eq fun v w9 => mX_mask rfl
theorem b_63_140 {d : Nat} {y0 : Int32} {w : MW} : mX d 63 140 [mJ, mJ, mJ] [.int y0] w = some (.inl (some (.int y0)), w) := by
  exact X_ireturn f_63_140 rfl
theorem b_63_141 {d : Nat} {a0 : Nat} {x1 : Int32} {w : MW} (h0 : mTg w a0 = 6) (h1 : mR w a0 1 = some (gR w a0 1)) (h2 : mTg w (gR w a0 1) = 8) (h3 : mR w (gR w a0 1) 2 = some (gR w (gR w a0 1) 2)) : mX (d + 1) 63 141 [.ref a0, .int x1, mJ] [] w = mThen (mK d 65 [.ref a0, .int (nI 1)] w) (fun v w9 => mX (d + 1) 63 156 [mJ, mJ, mJ] (v.toList ++ [.ref (gR w (gR w a0 1) 2), .int x1, .int (nI 0), .ref a0]) w9) := by
  refine Eq.trans (X_st f_63_141 rfl rfl) ?_
  refine Eq.trans (X_iconst f_63_142 kc_i_0) ?_
  refine Eq.trans (X_st f_63_143 rfl rfl) ?_
  refine Eq.trans (X_st f_63_144 rfl rfl) ?_
  refine Eq.trans (X_getR f_63_145 h0 rfl h1) ?_
  refine Eq.trans (X_getR f_63_148 h2 rfl h3) ?_
  refine Eq.trans (X_st f_63_151 rfl rfl) ?_
  refine Eq.trans (X_iconst f_63_152 kc_i_1) ?_
  refine Eq.trans (X_call f_63_153 (by decide) rfl rfl rfl rfl rfl rfl (Nat.le_of_ble_eq_true rfl) (Nat.le_of_ble_eq_true rfl) (decide_eq_true h0) (Nat.le_of_ble_eq_true rfl)) ?_
  exact mThen_eq fun v w9 => mX_mask rfl
theorem b_63_156 {d : Nat} {y0 : Int32} {b1 : Nat} {y2 : Int32} {y3 : Int32} {b4 : Nat} {w : MW} (h0 : mTg w b4 = 6) : mX (d + 1) 63 156 [mJ, mJ, mJ] [.int y0, .ref b1, .int y2, .int y3, .ref b4] w = mThen (mK d 69 [.ref b4, .int y3, .int y2, .ref b1, .int y0] w) (fun v w9 => mX (d + 1) 63 159 [mJ, mJ, mJ] (v.toList ++ []) w9) := by
  refine Eq.trans (X_call f_63_156 (by decide) rfl rfl rfl rfl rfl rfl (Nat.le_of_ble_eq_true rfl) (Nat.le_of_ble_eq_true rfl) (decide_eq_true h0) (Nat.le_of_ble_eq_true rfl)) ?_
  exact mThen_eq fun v w9 => mX_mask rfl
theorem b_63_159 {d : Nat} {y0 : Int32} {w : MW} : mX d 63 159 [mJ, mJ, mJ] [.int y0] w = some (.inl (some (.int y0)), w) := by
  exact X_ireturn f_63_159 rfl
theorem b_63_160 {d : Nat} {a0 : Nat} {x1 : Int32} {w : MW} (h0 : mTg w a0 = 6) : mX (d + 1) 63 160 [.ref a0, .int x1, mJ] [] w = mThen (mK d 66 [.ref a0, .int (nI 0), .int x1] w) (fun v w9 => mX (d + 1) 63 167 [.ref a0, mJ, mJ] (v.toList ++ [.ref a0]) w9) := by
  refine Eq.trans (X_st f_63_160 rfl rfl) ?_
  refine Eq.trans (X_st f_63_161 rfl rfl) ?_
  refine Eq.trans (X_iconst f_63_162 kc_i_0) ?_
  refine Eq.trans (X_st f_63_163 rfl rfl) ?_
  refine Eq.trans (X_call f_63_164 (by decide) rfl rfl rfl rfl rfl rfl (Nat.le_of_ble_eq_true rfl) (Nat.le_of_ble_eq_true rfl) (decide_eq_true h0) (Nat.le_of_ble_eq_true rfl)) ?_
  exact mThen_eq fun v w9 => mX_mask rfl
theorem b_63_167 {d : Nat} {a0 : Nat} {y0 : Int32} {b1 : Nat} {w : MW} (h0 : mTg w b1 = 6) (h1 : mE ≤ b1) (h2 : mTg (wI w b1 3 y0) a0 = 6) : mX d 63 167 [.ref a0, mJ, mJ] [.int y0, .ref b1] w = (if nI 0 ≤ (mI (wI w b1 3 y0) a0 3) then mX d 63 181 [mJ, mJ, mJ] [] (wI w b1 3 y0) else mX d 63 177 [mJ, mJ, mJ] [] (wI w b1 3 y0)) := by
  refine Eq.trans (X_putI f_63_167 h0 h1 rfl rfl) ?_
  refine Eq.trans (X_st f_63_170 rfl rfl) ?_
  refine Eq.trans (X_getI f_63_171 h2 rfl) ?_
  refine Eq.trans (X_br f_63_174 rfl rfl) ?_
  exact mIte_eq (mX_mask rfl) (mX_mask rfl)
theorem b_63_177 {d : Nat} {w : MW} : mX d 63 177 [mJ, mJ, mJ] [] w = mX d 63 182 [mJ, mJ, mJ] [.int (nI 3)] w := by
  refine Eq.trans (X_iconst f_63_177 kc_i_3) ?_
  refine Eq.trans (X_st f_63_178 rfl rfl) ?_
  exact mX_mask rfl
theorem b_63_181 {d : Nat} {w : MW} : mX d 63 181 [mJ, mJ, mJ] [] w = mX d 63 182 [mJ, mJ, mJ] [.int (nI 0)] w := by
  refine Eq.trans (X_iconst f_63_181 kc_i_0) ?_
  exact mX_mask rfl
theorem b_63_182 {d : Nat} {y0 : Int32} {w : MW} : mX d 63 182 [mJ, mJ, mJ] [.int y0] w = some (.inl (some (.int y0)), w) := by
  exact X_ireturn f_63_182 rfl
theorem b_63_183 {d : Nat} {a0 : Nat} {x1 : Int32} {w : MW} (h0 : mTg w a0 = 6) (h1 : mR w a0 1 = some (gR w a0 1)) (h2 : mTg w (gR w a0 1) = 8) (h3 : mR w (gR w a0 1) 6 = some (gR w (gR w a0 1) 6)) (h4 : mR w (gR w a0 1) 5 = some (gR w (gR w a0 1) 5)) : mX (d + 1) 63 183 [.ref a0, .int x1, mJ] [] w = mThen (mK d 65 [.ref a0, .int (nI 2)] w) (fun v w9 => mX (d + 1) 63 205 [mJ, mJ, mJ] (v.toList ++ [.ref (gR w (gR w a0 1) 5), .ref (gR w (gR w a0 1) 6), .int x1, .int (nI 1), .ref a0]) w9) := by
  refine Eq.trans (X_st f_63_183 rfl rfl) ?_
  refine Eq.trans (X_iconst f_63_184 kc_i_1) ?_
  refine Eq.trans (X_st f_63_185 rfl rfl) ?_
  refine Eq.trans (X_st f_63_186 rfl rfl) ?_
  refine Eq.trans (X_getR f_63_187 h0 rfl h1) ?_
  refine Eq.trans (X_getR f_63_190 h2 rfl h3) ?_
  refine Eq.trans (X_st f_63_193 rfl rfl) ?_
  refine Eq.trans (X_getR f_63_194 h0 rfl h1) ?_
  refine Eq.trans (X_getR f_63_197 h2 rfl h4) ?_
  refine Eq.trans (X_st f_63_200 rfl rfl) ?_
  refine Eq.trans (X_iconst f_63_201 kc_i_2) ?_
  refine Eq.trans (X_call f_63_202 (by decide) rfl rfl rfl rfl rfl rfl (Nat.le_of_ble_eq_true rfl) (Nat.le_of_ble_eq_true rfl) (decide_eq_true h0) (Nat.le_of_ble_eq_true rfl)) ?_
  exact mThen_eq fun v w9 => mX_mask rfl
theorem b_63_205 {d : Nat} {y0 : Int32} {b1 : Nat} {b2 : Nat} {y3 : Int32} {y4 : Int32} {b5 : Nat} {w : MW} (h0 : mTg w b5 = 6) : mX (d + 1) 63 205 [mJ, mJ, mJ] [.int y0, .ref b1, .ref b2, .int y3, .int y4, .ref b5] w = mThen (mK d 70 [.ref b5, .int y4, .int y3, .ref b2, .ref b1, .int y0, .int (nI 4)] w) (fun v w9 => mX (d + 1) 63 209 [mJ, mJ, mJ] (v.toList ++ []) w9) := by
  refine Eq.trans (X_iconst f_63_205 kc_i_4) ?_
  refine Eq.trans (X_call f_63_206 (by decide) rfl rfl rfl rfl rfl rfl (Nat.le_of_ble_eq_true rfl) (Nat.le_of_ble_eq_true rfl) (decide_eq_true h0) (Nat.le_of_ble_eq_true rfl)) ?_
  exact mThen_eq fun v w9 => mX_mask rfl
theorem b_63_209 {d : Nat} {y0 : Int32} {w : MW} : mX d 63 209 [mJ, mJ, mJ] [.int y0] w = some (.inl (some (.int y0)), w) := by
  exact X_ireturn f_63_209 rfl
theorem b_63_210 {d : Nat} {a0 : Nat} {x1 : Int32} {w : MW} (h0 : mTg w a0 = 6) (h1 : mR w a0 1 = some (gR w a0 1)) (h2 : mTg w (gR w a0 1) = 8) (h3 : mR w (gR w a0 1) 13 = some (gR w (gR w a0 1) 13)) (h4 : mR w (gR w a0 1) 12 = some (gR w (gR w a0 1) 12)) : mX (d + 1) 63 210 [.ref a0, .int x1, mJ] [] w = mThen (mK d 65 [.ref a0, .int (nI 4)] w) (fun v w9 => mX (d + 1) 63 232 [mJ, mJ, mJ] (v.toList ++ [.ref (gR w (gR w a0 1) 12), .ref (gR w (gR w a0 1) 13), .int x1, .int (nI 2), .ref a0]) w9) := by
  refine Eq.trans (X_st f_63_210 rfl rfl) ?_
  refine Eq.trans (X_iconst f_63_211 kc_i_2) ?_
  refine Eq.trans (X_st f_63_212 rfl rfl) ?_
  refine Eq.trans (X_st f_63_213 rfl rfl) ?_
  refine Eq.trans (X_getR f_63_214 h0 rfl h1) ?_
  refine Eq.trans (X_getR f_63_217 h2 rfl h3) ?_
  refine Eq.trans (X_st f_63_220 rfl rfl) ?_
  refine Eq.trans (X_getR f_63_221 h0 rfl h1) ?_
  refine Eq.trans (X_getR f_63_224 h2 rfl h4) ?_
  refine Eq.trans (X_st f_63_227 rfl rfl) ?_
  refine Eq.trans (X_iconst f_63_228 kc_i_4) ?_
  refine Eq.trans (X_call f_63_229 (by decide) rfl rfl rfl rfl rfl rfl (Nat.le_of_ble_eq_true rfl) (Nat.le_of_ble_eq_true rfl) (decide_eq_true h0) (Nat.le_of_ble_eq_true rfl)) ?_
  exact mThen_eq fun v w9 => mX_mask rfl
theorem b_63_232 {d : Nat} {y0 : Int32} {b1 : Nat} {b2 : Nat} {y3 : Int32} {y4 : Int32} {b5 : Nat} {w : MW} (h0 : mTg w b5 = 6) : mX (d + 1) 63 232 [mJ, mJ, mJ] [.int y0, .ref b1, .ref b2, .int y3, .int y4, .ref b5] w = mThen (mK d 70 [.ref b5, .int y4, .int y3, .ref b2, .ref b1, .int y0, .int (nI 8)] w) (fun v w9 => mX (d + 1) 63 237 [mJ, mJ, mJ] (v.toList ++ []) w9) := by
  refine Eq.trans (X_bipush f_63_232 kc_b_8) ?_
  refine Eq.trans (X_call f_63_234 (by decide) rfl rfl rfl rfl rfl rfl (Nat.le_of_ble_eq_true rfl) (Nat.le_of_ble_eq_true rfl) (decide_eq_true h0) (Nat.le_of_ble_eq_true rfl)) ?_
  exact mThen_eq fun v w9 => mX_mask rfl
theorem b_63_237 {d : Nat} {y0 : Int32} {w : MW} : mX d 63 237 [mJ, mJ, mJ] [.int y0] w = some (.inl (some (.int y0)), w) := by
  exact X_ireturn f_63_237 rfl
theorem b_63_238 {d : Nat} {a0 : Nat} {x1 : Int32} {w : MW} (h0 : mTg w a0 = 6) (h1 : mR w a0 1 = some (gR w a0 1)) (h2 : mTg w (gR w a0 1) = 8) (h3 : mR w (gR w a0 1) 15 = some (gR w (gR w a0 1) 15)) : mX (d + 1) 63 238 [.ref a0, .int x1, mJ] [] w = mThen (mK d 65 [.ref a0, .int (nI 5)] w) (fun v w9 => mX (d + 1) 63 253 [mJ, mJ, mJ] (v.toList ++ [.ref (gR w (gR w a0 1) 15), .int x1, .int (nI 3), .ref a0]) w9) := by
  refine Eq.trans (X_st f_63_238 rfl rfl) ?_
  refine Eq.trans (X_iconst f_63_239 kc_i_3) ?_
  refine Eq.trans (X_st f_63_240 rfl rfl) ?_
  refine Eq.trans (X_st f_63_241 rfl rfl) ?_
  refine Eq.trans (X_getR f_63_242 h0 rfl h1) ?_
  refine Eq.trans (X_getR f_63_245 h2 rfl h3) ?_
  refine Eq.trans (X_st f_63_248 rfl rfl) ?_
  refine Eq.trans (X_iconst f_63_249 kc_i_5) ?_
  refine Eq.trans (X_call f_63_250 (by decide) rfl rfl rfl rfl rfl rfl (Nat.le_of_ble_eq_true rfl) (Nat.le_of_ble_eq_true rfl) (decide_eq_true h0) (Nat.le_of_ble_eq_true rfl)) ?_
  exact mThen_eq fun v w9 => mX_mask rfl
theorem b_63_253 {d : Nat} {y0 : Int32} {b1 : Nat} {y2 : Int32} {y3 : Int32} {b4 : Nat} {w : MW} (h0 : mTg w b4 = 6) : mX (d + 1) 63 253 [mJ, mJ, mJ] [.int y0, .ref b1, .int y2, .int y3, .ref b4] w = mThen (mK d 69 [.ref b4, .int y3, .int y2, .ref b1, .int y0] w) (fun v w9 => mX (d + 1) 63 256 [mJ, mJ, mJ] (v.toList ++ []) w9) := by
  refine Eq.trans (X_call f_63_253 (by decide) rfl rfl rfl rfl rfl rfl (Nat.le_of_ble_eq_true rfl) (Nat.le_of_ble_eq_true rfl) (decide_eq_true h0) (Nat.le_of_ble_eq_true rfl)) ?_
  exact mThen_eq fun v w9 => mX_mask rfl
theorem b_63_256 {d : Nat} {y0 : Int32} {w : MW} : mX d 63 256 [mJ, mJ, mJ] [.int y0] w = some (.inl (some (.int y0)), w) := by
  exact X_ireturn f_63_256 rfl
theorem b_63_257 {d : Nat} {a0 : Nat} {x1 : Int32} {w : MW} (h0 : mTg w a0 = 6) (h1 : mR w a0 0 = some (gR w a0 0)) (h2 : mTg w (gR w a0 0) = 7) (h3 : mR w (gR w a0 0) 5 = some (gR w (gR w a0 0) 5)) : mX (d + 1) 63 257 [.ref a0, .int x1, mJ] [] w = mThen (mK d 69 [.ref a0, .int (nI 3), .int x1, .ref (gR w (gR w a0 0) 5), .int x1] w) (fun v w9 => mX (d + 1) 63 271 [mJ, mJ, mJ] (v.toList ++ []) w9) := by
  refine Eq.trans (X_st f_63_257 rfl rfl) ?_
  refine Eq.trans (X_iconst f_63_258 kc_i_3) ?_
  refine Eq.trans (X_st f_63_259 rfl rfl) ?_
  refine Eq.trans (X_st f_63_260 rfl rfl) ?_
  refine Eq.trans (X_getR f_63_261 h0 rfl h1) ?_
  refine Eq.trans (X_getR f_63_264 h2 rfl h3) ?_
  refine Eq.trans (X_st f_63_267 rfl rfl) ?_
  refine Eq.trans (X_call f_63_268 (by decide) rfl rfl rfl rfl rfl rfl (Nat.le_of_ble_eq_true rfl) (Nat.le_of_ble_eq_true rfl) (decide_eq_true h0) (Nat.le_of_ble_eq_true rfl)) ?_
  exact mThen_eq fun v w9 => mX_mask rfl
theorem b_63_271 {d : Nat} {y0 : Int32} {w : MW} : mX d 63 271 [mJ, mJ, mJ] [.int y0] w = some (.inl (some (.int y0)), w) := by
  exact X_ireturn f_63_271 rfl
theorem b_63_272 {d : Nat} {a0 : Nat} {x1 : Int32} {w : MW} (h0 : mTg w a0 = 6) (h1 : mR w a0 0 = some (gR w a0 0)) (h2 : mTg w (gR w a0 0) = 7) (h3 : mR w (gR w a0 0) 5 = some (gR w (gR w a0 0) 5)) : mX (d + 1) 63 272 [.ref a0, .int x1, mJ] [] w = mThen (mK d 69 [.ref a0, .int (nI 2), .int x1, .ref (gR w (gR w a0 0) 5), .int x1] w) (fun v w9 => mX (d + 1) 63 286 [mJ, mJ, mJ] (v.toList ++ []) w9) := by
  refine Eq.trans (X_st f_63_272 rfl rfl) ?_
  refine Eq.trans (X_iconst f_63_273 kc_i_2) ?_
  refine Eq.trans (X_st f_63_274 rfl rfl) ?_
  refine Eq.trans (X_st f_63_275 rfl rfl) ?_
  refine Eq.trans (X_getR f_63_276 h0 rfl h1) ?_
  refine Eq.trans (X_getR f_63_279 h2 rfl h3) ?_
  refine Eq.trans (X_st f_63_282 rfl rfl) ?_
  refine Eq.trans (X_call f_63_283 (by decide) rfl rfl rfl rfl rfl rfl (Nat.le_of_ble_eq_true rfl) (Nat.le_of_ble_eq_true rfl) (decide_eq_true h0) (Nat.le_of_ble_eq_true rfl)) ?_
  exact mThen_eq fun v w9 => mX_mask rfl
theorem b_63_286 {d : Nat} {y0 : Int32} {w : MW} : mX d 63 286 [mJ, mJ, mJ] [.int y0] w = some (.inl (some (.int y0)), w) := by
  exact X_ireturn f_63_286 rfl
theorem b_63_287 {d : Nat} {w : MW} : mX d 63 287 [mJ, mJ, mJ] [] w = some (.inl (some (.int (nI 0))), w) := by
  refine Eq.trans (X_iconst f_63_287 kc_i_0) ?_
  exact X_ireturn f_63_288 rfl
/-! BeeTurnpike$Teller lookAtNumber (II)I -/
theorem f_64_0 : mFetch 64 0 = some (.iload_n 2, 1, []) := by decide +kernel
theorem f_64_1 : mFetch 64 1 = some (.tableswitch 196 14 20 #[43, 64, 85, 106, 126, 154, 175], 43, [197, 44, 65, 86, 107, 127, 155, 176]) := by decide +kernel
theorem f_64_44 : mFetch 64 44 = some (.aload_n 0, 1, []) := by decide +kernel
theorem f_64_45 : mFetch 64 45 = some (.iload_n 1, 1, []) := by decide +kernel
theorem f_64_46 : mFetch 64 46 = some (.iconst 0, 1, []) := by decide +kernel
theorem f_64_47 : mFetch 64 47 = some (.bipush 9, 2, []) := by decide +kernel
theorem f_64_49 : mFetch 64 49 = some (.aload_n 0, 1, []) := by decide +kernel
theorem f_64_50 : mFetch 64 50 = some (.getfield 19, 3, [6, 1, 0, 293]) := by decide +kernel
theorem f_64_53 : mFetch 64 53 = some (.getfield 101, 3, [8, 1, 1, 75]) := by decide +kernel
theorem f_64_56 : mFetch 64 56 = some (.aload_n 0, 1, []) := by decide +kernel
theorem f_64_57 : mFetch 64 57 = some (.iconst 0, 1, []) := by decide +kernel
theorem f_64_58 : mFetch 64 58 = some (.invokevirtual 66, 3, [65, 2, 2, 6, 1250, 1252, 53]) := by decide +kernel
theorem f_64_61 : mFetch 64 61 = some (.invokevirtual 104, 3, [71, 6, 2, 6, 1254, 1256, 54]) := by decide +kernel
theorem f_64_64 : mFetch 64 64 = some (.ireturn, 1, [0]) := by decide +kernel
theorem f_64_65 : mFetch 64 65 = some (.aload_n 0, 1, []) := by decide +kernel
theorem f_64_66 : mFetch 64 66 = some (.iload_n 1, 1, []) := by decide +kernel
theorem f_64_67 : mFetch 64 67 = some (.iconst 1, 1, []) := by decide +kernel
theorem f_64_68 : mFetch 64 68 = some (.bipush 9, 2, []) := by decide +kernel
theorem f_64_70 : mFetch 64 70 = some (.aload_n 0, 1, []) := by decide +kernel
theorem f_64_71 : mFetch 64 71 = some (.getfield 19, 3, [6, 1, 0, 293]) := by decide +kernel
theorem f_64_74 : mFetch 64 74 = some (.getfield 108, 3, [8, 3, 1, 76]) := by decide +kernel
theorem f_64_77 : mFetch 64 77 = some (.aload_n 0, 1, []) := by decide +kernel
theorem f_64_78 : mFetch 64 78 = some (.iconst 1, 1, []) := by decide +kernel
theorem f_64_79 : mFetch 64 79 = some (.invokevirtual 66, 3, [65, 2, 2, 6, 1250, 1252, 53]) := by decide +kernel
theorem f_64_82 : mFetch 64 82 = some (.invokevirtual 104, 3, [71, 6, 2, 6, 1254, 1256, 54]) := by decide +kernel
theorem f_64_85 : mFetch 64 85 = some (.ireturn, 1, [0]) := by decide +kernel
theorem f_64_86 : mFetch 64 86 = some (.aload_n 0, 1, []) := by decide +kernel
theorem f_64_87 : mFetch 64 87 = some (.iload_n 1, 1, []) := by decide +kernel
theorem f_64_88 : mFetch 64 88 = some (.iconst 0, 1, []) := by decide +kernel
theorem f_64_89 : mFetch 64 89 = some (.bipush 9, 2, []) := by decide +kernel
theorem f_64_91 : mFetch 64 91 = some (.aload_n 0, 1, []) := by decide +kernel
theorem f_64_92 : mFetch 64 92 = some (.getfield 19, 3, [6, 1, 0, 293]) := by decide +kernel
theorem f_64_95 : mFetch 64 95 = some (.getfield 111, 3, [8, 4, 1, 77]) := by decide +kernel
theorem f_64_98 : mFetch 64 98 = some (.aload_n 0, 1, []) := by decide +kernel
theorem f_64_99 : mFetch 64 99 = some (.iconst 1, 1, []) := by decide +kernel
theorem f_64_100 : mFetch 64 100 = some (.invokevirtual 66, 3, [65, 2, 2, 6, 1250, 1252, 53]) := by decide +kernel
theorem f_64_103 : mFetch 64 103 = some (.invokevirtual 104, 3, [71, 6, 2, 6, 1254, 1256, 54]) := by decide +kernel
theorem f_64_106 : mFetch 64 106 = some (.ireturn, 1, [0]) := by decide +kernel
theorem f_64_107 : mFetch 64 107 = some (.aload_n 0, 1, []) := by decide +kernel
theorem f_64_108 : mFetch 64 108 = some (.iload_n 1, 1, []) := by decide +kernel
theorem f_64_109 : mFetch 64 109 = some (.iconst 0, 1, []) := by decide +kernel
theorem f_64_110 : mFetch 64 110 = some (.iconst 3, 1, []) := by decide +kernel
theorem f_64_111 : mFetch 64 111 = some (.aload_n 0, 1, []) := by decide +kernel
theorem f_64_112 : mFetch 64 112 = some (.getfield 19, 3, [6, 1, 0, 293]) := by decide +kernel
theorem f_64_115 : mFetch 64 115 = some (.getfield 114, 3, [8, 8, 1, 78]) := by decide +kernel
theorem f_64_118 : mFetch 64 118 = some (.aload_n 0, 1, []) := by decide +kernel
theorem f_64_119 : mFetch 64 119 = some (.iconst 3, 1, []) := by decide +kernel
theorem f_64_120 : mFetch 64 120 = some (.invokevirtual 66, 3, [65, 2, 2, 6, 1250, 1252, 53]) := by decide +kernel
theorem f_64_123 : mFetch 64 123 = some (.invokevirtual 104, 3, [71, 6, 2, 6, 1254, 1256, 54]) := by decide +kernel
theorem f_64_126 : mFetch 64 126 = some (.ireturn, 1, [0]) := by decide +kernel
theorem f_64_127 : mFetch 64 127 = some (.aload_n 0, 1, []) := by decide +kernel
theorem f_64_128 : mFetch 64 128 = some (.iload_n 1, 1, []) := by decide +kernel
theorem f_64_129 : mFetch 64 129 = some (.iconst 0, 1, []) := by decide +kernel
theorem f_64_130 : mFetch 64 130 = some (.bipush 20, 2, []) := by decide +kernel
theorem f_64_132 : mFetch 64 132 = some (.aload_n 0, 1, []) := by decide +kernel
theorem f_64_133 : mFetch 64 133 = some (.getfield 19, 3, [6, 1, 0, 293]) := by decide +kernel
theorem f_64_136 : mFetch 64 136 = some (.getfield 117, 3, [8, 9, 1, 79]) := by decide +kernel
theorem f_64_139 : mFetch 64 139 = some (.aload_n 0, 1, []) := by decide +kernel
theorem f_64_140 : mFetch 64 140 = some (.iconst 3, 1, []) := by decide +kernel
theorem f_64_141 : mFetch 64 141 = some (.invokevirtual 66, 3, [65, 2, 2, 6, 1250, 1252, 53]) := by decide +kernel
theorem f_64_144 : mFetch 64 144 = some (.iconst 5, 1, []) := by decide +kernel
theorem f_64_145 : mFetch 64 145 = some (.imul, 1, []) := by decide +kernel
theorem f_64_146 : mFetch 64 146 = some (.aload_n 0, 1, []) := by decide +kernel
theorem f_64_147 : mFetch 64 147 = some (.getfield 76, 3, [6, 3, 0, 295]) := by decide +kernel
theorem f_64_150 : mFetch 64 150 = some (.iadd, 1, []) := by decide +kernel
theorem f_64_151 : mFetch 64 151 = some (.invokevirtual 104, 3, [71, 6, 2, 6, 1254, 1256, 54]) := by decide +kernel
theorem f_64_154 : mFetch 64 154 = some (.ireturn, 1, [0]) := by decide +kernel
theorem f_64_155 : mFetch 64 155 = some (.aload_n 0, 1, []) := by decide +kernel
theorem f_64_156 : mFetch 64 156 = some (.iload_n 1, 1, []) := by decide +kernel
theorem f_64_157 : mFetch 64 157 = some (.iconst 0, 1, []) := by decide +kernel
theorem f_64_158 : mFetch 64 158 = some (.bipush 99, 2, []) := by decide +kernel
theorem f_64_160 : mFetch 64 160 = some (.aload_n 0, 1, []) := by decide +kernel
theorem f_64_161 : mFetch 64 161 = some (.getfield 19, 3, [6, 1, 0, 293]) := by decide +kernel
theorem f_64_164 : mFetch 64 164 = some (.getfield 120, 3, [8, 10, 1, 80]) := by decide +kernel
theorem f_64_167 : mFetch 64 167 = some (.aload_n 0, 1, []) := by decide +kernel
theorem f_64_168 : mFetch 64 168 = some (.iconst 4, 1, []) := by decide +kernel
theorem f_64_169 : mFetch 64 169 = some (.invokevirtual 66, 3, [65, 2, 2, 6, 1250, 1252, 53]) := by decide +kernel
theorem f_64_172 : mFetch 64 172 = some (.invokevirtual 104, 3, [71, 6, 2, 6, 1254, 1256, 54]) := by decide +kernel
theorem f_64_175 : mFetch 64 175 = some (.ireturn, 1, [0]) := by decide +kernel
theorem f_64_176 : mFetch 64 176 = some (.aload_n 0, 1, []) := by decide +kernel
theorem f_64_177 : mFetch 64 177 = some (.iload_n 1, 1, []) := by decide +kernel
theorem f_64_178 : mFetch 64 178 = some (.iconst 1, 1, []) := by decide +kernel
theorem f_64_179 : mFetch 64 179 = some (.bipush 9, 2, []) := by decide +kernel
theorem f_64_181 : mFetch 64 181 = some (.aload_n 0, 1, []) := by decide +kernel
theorem f_64_182 : mFetch 64 182 = some (.getfield 19, 3, [6, 1, 0, 293]) := by decide +kernel
theorem f_64_185 : mFetch 64 185 = some (.getfield 123, 3, [8, 11, 1, 81]) := by decide +kernel
theorem f_64_188 : mFetch 64 188 = some (.aload_n 0, 1, []) := by decide +kernel
theorem f_64_189 : mFetch 64 189 = some (.iconst 4, 1, []) := by decide +kernel
theorem f_64_190 : mFetch 64 190 = some (.invokevirtual 66, 3, [65, 2, 2, 6, 1250, 1252, 53]) := by decide +kernel
theorem f_64_193 : mFetch 64 193 = some (.invokevirtual 104, 3, [71, 6, 2, 6, 1254, 1256, 54]) := by decide +kernel
theorem f_64_196 : mFetch 64 196 = some (.ireturn, 1, [0]) := by decide +kernel
theorem f_64_197 : mFetch 64 197 = some (.iconst 0, 1, []) := by decide +kernel
theorem f_64_198 : mFetch 64 198 = some (.ireturn, 1, [0]) := by decide +kernel
theorem s_64_0_14 {d : Nat} {a0 : Nat} {x1 : Int32} {x2 : Int32} {w : MW} (h0 : x2 = (nI 14)) : mX d 64 0 [.ref a0, .int x1, .int x2] [] w = mX d 64 44 [.ref a0, .int x1, mJ] [] w := by
  refine Eq.trans (X_st f_64_0 rfl rfl) ?_
  refine Eq.trans (X_sw f_64_1 rfl (congrArg Value.int h0) rfl) ?_
  exact mX_mask rfl
theorem s_64_0_15 {d : Nat} {a0 : Nat} {x1 : Int32} {x2 : Int32} {w : MW} (h0 : x2 = (nI 15)) : mX d 64 0 [.ref a0, .int x1, .int x2] [] w = mX d 64 65 [.ref a0, .int x1, mJ] [] w := by
  refine Eq.trans (X_st f_64_0 rfl rfl) ?_
  refine Eq.trans (X_sw f_64_1 rfl (congrArg Value.int h0) rfl) ?_
  exact mX_mask rfl
theorem s_64_0_16 {d : Nat} {a0 : Nat} {x1 : Int32} {x2 : Int32} {w : MW} (h0 : x2 = (nI 16)) : mX d 64 0 [.ref a0, .int x1, .int x2] [] w = mX d 64 86 [.ref a0, .int x1, mJ] [] w := by
  refine Eq.trans (X_st f_64_0 rfl rfl) ?_
  refine Eq.trans (X_sw f_64_1 rfl (congrArg Value.int h0) rfl) ?_
  exact mX_mask rfl
theorem s_64_0_17 {d : Nat} {a0 : Nat} {x1 : Int32} {x2 : Int32} {w : MW} (h0 : x2 = (nI 17)) : mX d 64 0 [.ref a0, .int x1, .int x2] [] w = mX d 64 107 [.ref a0, .int x1, mJ] [] w := by
  refine Eq.trans (X_st f_64_0 rfl rfl) ?_
  refine Eq.trans (X_sw f_64_1 rfl (congrArg Value.int h0) rfl) ?_
  exact mX_mask rfl
theorem s_64_0_18 {d : Nat} {a0 : Nat} {x1 : Int32} {x2 : Int32} {w : MW} (h0 : x2 = (nI 18)) : mX d 64 0 [.ref a0, .int x1, .int x2] [] w = mX d 64 127 [.ref a0, .int x1, mJ] [] w := by
  refine Eq.trans (X_st f_64_0 rfl rfl) ?_
  refine Eq.trans (X_sw f_64_1 rfl (congrArg Value.int h0) rfl) ?_
  exact mX_mask rfl
theorem s_64_0_19 {d : Nat} {a0 : Nat} {x1 : Int32} {x2 : Int32} {w : MW} (h0 : x2 = (nI 19)) : mX d 64 0 [.ref a0, .int x1, .int x2] [] w = mX d 64 155 [.ref a0, .int x1, mJ] [] w := by
  refine Eq.trans (X_st f_64_0 rfl rfl) ?_
  refine Eq.trans (X_sw f_64_1 rfl (congrArg Value.int h0) rfl) ?_
  exact mX_mask rfl
theorem s_64_0_20 {d : Nat} {a0 : Nat} {x1 : Int32} {x2 : Int32} {w : MW} (h0 : x2 = (nI 20)) : mX d 64 0 [.ref a0, .int x1, .int x2] [] w = mX d 64 176 [.ref a0, .int x1, mJ] [] w := by
  refine Eq.trans (X_st f_64_0 rfl rfl) ?_
  refine Eq.trans (X_sw f_64_1 rfl (congrArg Value.int h0) rfl) ?_
  exact mX_mask rfl
theorem s_64_0_d {d : Nat} {a0 : Nat} {x1 : Int32} {x2 : Int32} {w : MW} (h0 : (x2).toInt < 14 ∨ 20 < (x2).toInt) : mX d 64 0 [.ref a0, .int x1, .int x2] [] w = mX d 64 197 [mJ, mJ, mJ] [] w := by
  refine Eq.trans (X_st f_64_0 rfl rfl) ?_
  refine Eq.trans (X_swD f_64_1 h0 rfl) ?_
  exact mX_mask rfl
theorem e_64 {d : Nat} {a0 : Nat} {x1 : Int32} {x2 : Int32} {w : MW} : mK d 64 [.ref a0, .int x1, .int x2] w = mX d 64 0 [.ref a0, .int x1, .int x2] [] w := rfl
theorem b_64_44 {d : Nat} {a0 : Nat} {x1 : Int32} {w : MW} (h0 : mTg w a0 = 6) (h1 : mR w a0 1 = some (gR w a0 1)) (h2 : mTg w (gR w a0 1) = 8) (h3 : mR w (gR w a0 1) 1 = some (gR w (gR w a0 1) 1)) : mX (d + 1) 64 44 [.ref a0, .int x1, mJ] [] w = mThen (mK d 65 [.ref a0, .int (nI 0)] w) (fun v w9 => mX (d + 1) 64 61 [mJ, mJ, mJ] (v.toList ++ [.ref (gR w (gR w a0 1) 1), .int (nI 9), .int (nI 0), .int x1, .ref a0]) w9) := by
  refine Eq.trans (X_st f_64_44 rfl rfl) ?_
  refine Eq.trans (X_st f_64_45 rfl rfl) ?_
  refine Eq.trans (X_iconst f_64_46 kc_i_0) ?_
  refine Eq.trans (X_bipush f_64_47 kc_b_9) ?_
  refine Eq.trans (X_st f_64_49 rfl rfl) ?_
  refine Eq.trans (X_getR f_64_50 h0 rfl h1) ?_
  refine Eq.trans (X_getR f_64_53 h2 rfl h3) ?_
  refine Eq.trans (X_st f_64_56 rfl rfl) ?_
  refine Eq.trans (X_iconst f_64_57 kc_i_0) ?_
  refine Eq.trans (X_call f_64_58 (by decide) rfl rfl rfl rfl rfl rfl (Nat.le_of_ble_eq_true rfl) (Nat.le_of_ble_eq_true rfl) (decide_eq_true h0) (Nat.le_of_ble_eq_true rfl)) ?_
  exact mThen_eq fun v w9 => mX_mask rfl
theorem b_64_61 {d : Nat} {y0 : Int32} {b1 : Nat} {y2 : Int32} {y3 : Int32} {y4 : Int32} {b5 : Nat} {w : MW} (h0 : mTg w b5 = 6) : mX (d + 1) 64 61 [mJ, mJ, mJ] [.int y0, .ref b1, .int y2, .int y3, .int y4, .ref b5] w = mThen (mK d 71 [.ref b5, .int y4, .int y3, .int y2, .ref b1, .int y0] w) (fun v w9 => mX (d + 1) 64 64 [mJ, mJ, mJ] (v.toList ++ []) w9) := by
  refine Eq.trans (X_call f_64_61 (by decide) rfl rfl rfl rfl rfl rfl (Nat.le_of_ble_eq_true rfl) (Nat.le_of_ble_eq_true rfl) (decide_eq_true h0) (Nat.le_of_ble_eq_true rfl)) ?_
  exact mThen_eq fun v w9 => mX_mask rfl
theorem b_64_64 {d : Nat} {y0 : Int32} {w : MW} : mX d 64 64 [mJ, mJ, mJ] [.int y0] w = some (.inl (some (.int y0)), w) := by
  exact X_ireturn f_64_64 rfl
theorem b_64_65 {d : Nat} {a0 : Nat} {x1 : Int32} {w : MW} (h0 : mTg w a0 = 6) (h1 : mR w a0 1 = some (gR w a0 1)) (h2 : mTg w (gR w a0 1) = 8) (h3 : mR w (gR w a0 1) 3 = some (gR w (gR w a0 1) 3)) : mX (d + 1) 64 65 [.ref a0, .int x1, mJ] [] w = mThen (mK d 65 [.ref a0, .int (nI 1)] w) (fun v w9 => mX (d + 1) 64 82 [mJ, mJ, mJ] (v.toList ++ [.ref (gR w (gR w a0 1) 3), .int (nI 9), .int (nI 1), .int x1, .ref a0]) w9) := by
  refine Eq.trans (X_st f_64_65 rfl rfl) ?_
  refine Eq.trans (X_st f_64_66 rfl rfl) ?_
  refine Eq.trans (X_iconst f_64_67 kc_i_1) ?_
  refine Eq.trans (X_bipush f_64_68 kc_b_9) ?_
  refine Eq.trans (X_st f_64_70 rfl rfl) ?_
  refine Eq.trans (X_getR f_64_71 h0 rfl h1) ?_
  refine Eq.trans (X_getR f_64_74 h2 rfl h3) ?_
  refine Eq.trans (X_st f_64_77 rfl rfl) ?_
  refine Eq.trans (X_iconst f_64_78 kc_i_1) ?_
  refine Eq.trans (X_call f_64_79 (by decide) rfl rfl rfl rfl rfl rfl (Nat.le_of_ble_eq_true rfl) (Nat.le_of_ble_eq_true rfl) (decide_eq_true h0) (Nat.le_of_ble_eq_true rfl)) ?_
  exact mThen_eq fun v w9 => mX_mask rfl
theorem b_64_82 {d : Nat} {y0 : Int32} {b1 : Nat} {y2 : Int32} {y3 : Int32} {y4 : Int32} {b5 : Nat} {w : MW} (h0 : mTg w b5 = 6) : mX (d + 1) 64 82 [mJ, mJ, mJ] [.int y0, .ref b1, .int y2, .int y3, .int y4, .ref b5] w = mThen (mK d 71 [.ref b5, .int y4, .int y3, .int y2, .ref b1, .int y0] w) (fun v w9 => mX (d + 1) 64 85 [mJ, mJ, mJ] (v.toList ++ []) w9) := by
  refine Eq.trans (X_call f_64_82 (by decide) rfl rfl rfl rfl rfl rfl (Nat.le_of_ble_eq_true rfl) (Nat.le_of_ble_eq_true rfl) (decide_eq_true h0) (Nat.le_of_ble_eq_true rfl)) ?_
  exact mThen_eq fun v w9 => mX_mask rfl
theorem b_64_85 {d : Nat} {y0 : Int32} {w : MW} : mX d 64 85 [mJ, mJ, mJ] [.int y0] w = some (.inl (some (.int y0)), w) := by
  exact X_ireturn f_64_85 rfl
theorem b_64_86 {d : Nat} {a0 : Nat} {x1 : Int32} {w : MW} (h0 : mTg w a0 = 6) (h1 : mR w a0 1 = some (gR w a0 1)) (h2 : mTg w (gR w a0 1) = 8) (h3 : mR w (gR w a0 1) 4 = some (gR w (gR w a0 1) 4)) : mX (d + 1) 64 86 [.ref a0, .int x1, mJ] [] w = mThen (mK d 65 [.ref a0, .int (nI 1)] w) (fun v w9 => mX (d + 1) 64 103 [mJ, mJ, mJ] (v.toList ++ [.ref (gR w (gR w a0 1) 4), .int (nI 9), .int (nI 0), .int x1, .ref a0]) w9) := by
  refine Eq.trans (X_st f_64_86 rfl rfl) ?_
  refine Eq.trans (X_st f_64_87 rfl rfl) ?_
  refine Eq.trans (X_iconst f_64_88 kc_i_0) ?_
  refine Eq.trans (X_bipush f_64_89 kc_b_9) ?_
  refine Eq.trans (X_st f_64_91 rfl rfl) ?_
  refine Eq.trans (X_getR f_64_92 h0 rfl h1) ?_
  refine Eq.trans (X_getR f_64_95 h2 rfl h3) ?_
  refine Eq.trans (X_st f_64_98 rfl rfl) ?_
  refine Eq.trans (X_iconst f_64_99 kc_i_1) ?_
  refine Eq.trans (X_call f_64_100 (by decide) rfl rfl rfl rfl rfl rfl (Nat.le_of_ble_eq_true rfl) (Nat.le_of_ble_eq_true rfl) (decide_eq_true h0) (Nat.le_of_ble_eq_true rfl)) ?_
  exact mThen_eq fun v w9 => mX_mask rfl
theorem b_64_103 {d : Nat} {y0 : Int32} {b1 : Nat} {y2 : Int32} {y3 : Int32} {y4 : Int32} {b5 : Nat} {w : MW} (h0 : mTg w b5 = 6) : mX (d + 1) 64 103 [mJ, mJ, mJ] [.int y0, .ref b1, .int y2, .int y3, .int y4, .ref b5] w = mThen (mK d 71 [.ref b5, .int y4, .int y3, .int y2, .ref b1, .int y0] w) (fun v w9 => mX (d + 1) 64 106 [mJ, mJ, mJ] (v.toList ++ []) w9) := by
  refine Eq.trans (X_call f_64_103 (by decide) rfl rfl rfl rfl rfl rfl (Nat.le_of_ble_eq_true rfl) (Nat.le_of_ble_eq_true rfl) (decide_eq_true h0) (Nat.le_of_ble_eq_true rfl)) ?_
  exact mThen_eq fun v w9 => mX_mask rfl
theorem b_64_106 {d : Nat} {y0 : Int32} {w : MW} : mX d 64 106 [mJ, mJ, mJ] [.int y0] w = some (.inl (some (.int y0)), w) := by
  exact X_ireturn f_64_106 rfl
theorem b_64_107 {d : Nat} {a0 : Nat} {x1 : Int32} {w : MW} (h0 : mTg w a0 = 6) (h1 : mR w a0 1 = some (gR w a0 1)) (h2 : mTg w (gR w a0 1) = 8) (h3 : mR w (gR w a0 1) 8 = some (gR w (gR w a0 1) 8)) : mX (d + 1) 64 107 [.ref a0, .int x1, mJ] [] w = mThen (mK d 65 [.ref a0, .int (nI 3)] w) (fun v w9 => mX (d + 1) 64 123 [mJ, mJ, mJ] (v.toList ++ [.ref (gR w (gR w a0 1) 8), .int (nI 3), .int (nI 0), .int x1, .ref a0]) w9) := by
  refine Eq.trans (X_st f_64_107 rfl rfl) ?_
  refine Eq.trans (X_st f_64_108 rfl rfl) ?_
  refine Eq.trans (X_iconst f_64_109 kc_i_0) ?_
  refine Eq.trans (X_iconst f_64_110 kc_i_3) ?_
  refine Eq.trans (X_st f_64_111 rfl rfl) ?_
  refine Eq.trans (X_getR f_64_112 h0 rfl h1) ?_
  refine Eq.trans (X_getR f_64_115 h2 rfl h3) ?_
  refine Eq.trans (X_st f_64_118 rfl rfl) ?_
  refine Eq.trans (X_iconst f_64_119 kc_i_3) ?_
  refine Eq.trans (X_call f_64_120 (by decide) rfl rfl rfl rfl rfl rfl (Nat.le_of_ble_eq_true rfl) (Nat.le_of_ble_eq_true rfl) (decide_eq_true h0) (Nat.le_of_ble_eq_true rfl)) ?_
  exact mThen_eq fun v w9 => mX_mask rfl
theorem b_64_123 {d : Nat} {y0 : Int32} {b1 : Nat} {y2 : Int32} {y3 : Int32} {y4 : Int32} {b5 : Nat} {w : MW} (h0 : mTg w b5 = 6) : mX (d + 1) 64 123 [mJ, mJ, mJ] [.int y0, .ref b1, .int y2, .int y3, .int y4, .ref b5] w = mThen (mK d 71 [.ref b5, .int y4, .int y3, .int y2, .ref b1, .int y0] w) (fun v w9 => mX (d + 1) 64 126 [mJ, mJ, mJ] (v.toList ++ []) w9) := by
  refine Eq.trans (X_call f_64_123 (by decide) rfl rfl rfl rfl rfl rfl (Nat.le_of_ble_eq_true rfl) (Nat.le_of_ble_eq_true rfl) (decide_eq_true h0) (Nat.le_of_ble_eq_true rfl)) ?_
  exact mThen_eq fun v w9 => mX_mask rfl
theorem b_64_126 {d : Nat} {y0 : Int32} {w : MW} : mX d 64 126 [mJ, mJ, mJ] [.int y0] w = some (.inl (some (.int y0)), w) := by
  exact X_ireturn f_64_126 rfl
theorem b_64_127 {d : Nat} {a0 : Nat} {x1 : Int32} {w : MW} (h0 : mTg w a0 = 6) (h1 : mR w a0 1 = some (gR w a0 1)) (h2 : mTg w (gR w a0 1) = 8) (h3 : mR w (gR w a0 1) 9 = some (gR w (gR w a0 1) 9)) : mX (d + 1) 64 127 [.ref a0, .int x1, mJ] [] w = mThen (mK d 65 [.ref a0, .int (nI 3)] w) (fun v w9 => mX (d + 1) 64 144 [.ref a0, mJ, mJ] (v.toList ++ [.ref (gR w (gR w a0 1) 9), .int (nI 20), .int (nI 0), .int x1, .ref a0]) w9) := by
  refine Eq.trans (X_st f_64_127 rfl rfl) ?_
  refine Eq.trans (X_st f_64_128 rfl rfl) ?_
  refine Eq.trans (X_iconst f_64_129 kc_i_0) ?_
  refine Eq.trans (X_bipush f_64_130 kc_b_20) ?_
  refine Eq.trans (X_st f_64_132 rfl rfl) ?_
  refine Eq.trans (X_getR f_64_133 h0 rfl h1) ?_
  refine Eq.trans (X_getR f_64_136 h2 rfl h3) ?_
  refine Eq.trans (X_st f_64_139 rfl rfl) ?_
  refine Eq.trans (X_iconst f_64_140 kc_i_3) ?_
  refine Eq.trans (X_call f_64_141 (by decide) rfl rfl rfl rfl rfl rfl (Nat.le_of_ble_eq_true rfl) (Nat.le_of_ble_eq_true rfl) (decide_eq_true h0) (Nat.le_of_ble_eq_true rfl)) ?_
  exact mThen_eq fun v w9 => mX_mask rfl
theorem b_64_144 {d : Nat} {a0 : Nat} {y0 : Int32} {b1 : Nat} {y2 : Int32} {y3 : Int32} {y4 : Int32} {b5 : Nat} {w : MW} (h0 : mTg w a0 = 6) (h1 : mTg w b5 = 6) : mX (d + 1) 64 144 [.ref a0, mJ, mJ] [.int y0, .ref b1, .int y2, .int y3, .int y4, .ref b5] w = mThen (mK d 71 [.ref b5, .int y4, .int y3, .int y2, .ref b1, .int ((y0 * (nI 5)) + (mI w a0 3))] w) (fun v w9 => mX (d + 1) 64 154 [mJ, mJ, mJ] (v.toList ++ []) w9) := by
  refine Eq.trans (X_iconst f_64_144 kc_i_5) ?_
  refine Eq.trans (X_st f_64_145 rfl rfl) ?_
  refine Eq.trans (X_st f_64_146 rfl rfl) ?_
  refine Eq.trans (X_getI f_64_147 h0 rfl) ?_
  refine Eq.trans (X_st f_64_150 rfl rfl) ?_
  refine Eq.trans (X_call f_64_151 (by decide) rfl rfl rfl rfl rfl rfl (Nat.le_of_ble_eq_true rfl) (Nat.le_of_ble_eq_true rfl) (decide_eq_true h1) (Nat.le_of_ble_eq_true rfl)) ?_
  exact mThen_eq fun v w9 => mX_mask rfl
theorem b_64_154 {d : Nat} {y0 : Int32} {w : MW} : mX d 64 154 [mJ, mJ, mJ] [.int y0] w = some (.inl (some (.int y0)), w) := by
  exact X_ireturn f_64_154 rfl
theorem b_64_155 {d : Nat} {a0 : Nat} {x1 : Int32} {w : MW} (h0 : mTg w a0 = 6) (h1 : mR w a0 1 = some (gR w a0 1)) (h2 : mTg w (gR w a0 1) = 8) (h3 : mR w (gR w a0 1) 10 = some (gR w (gR w a0 1) 10)) : mX (d + 1) 64 155 [.ref a0, .int x1, mJ] [] w = mThen (mK d 65 [.ref a0, .int (nI 4)] w) (fun v w9 => mX (d + 1) 64 172 [mJ, mJ, mJ] (v.toList ++ [.ref (gR w (gR w a0 1) 10), .int (nI 99), .int (nI 0), .int x1, .ref a0]) w9) := by
  refine Eq.trans (X_st f_64_155 rfl rfl) ?_
  refine Eq.trans (X_st f_64_156 rfl rfl) ?_
  refine Eq.trans (X_iconst f_64_157 kc_i_0) ?_
  refine Eq.trans (X_bipush f_64_158 kc_b_99) ?_
  refine Eq.trans (X_st f_64_160 rfl rfl) ?_
  refine Eq.trans (X_getR f_64_161 h0 rfl h1) ?_
  refine Eq.trans (X_getR f_64_164 h2 rfl h3) ?_
  refine Eq.trans (X_st f_64_167 rfl rfl) ?_
  refine Eq.trans (X_iconst f_64_168 kc_i_4) ?_
  refine Eq.trans (X_call f_64_169 (by decide) rfl rfl rfl rfl rfl rfl (Nat.le_of_ble_eq_true rfl) (Nat.le_of_ble_eq_true rfl) (decide_eq_true h0) (Nat.le_of_ble_eq_true rfl)) ?_
  exact mThen_eq fun v w9 => mX_mask rfl
theorem b_64_172 {d : Nat} {y0 : Int32} {b1 : Nat} {y2 : Int32} {y3 : Int32} {y4 : Int32} {b5 : Nat} {w : MW} (h0 : mTg w b5 = 6) : mX (d + 1) 64 172 [mJ, mJ, mJ] [.int y0, .ref b1, .int y2, .int y3, .int y4, .ref b5] w = mThen (mK d 71 [.ref b5, .int y4, .int y3, .int y2, .ref b1, .int y0] w) (fun v w9 => mX (d + 1) 64 175 [mJ, mJ, mJ] (v.toList ++ []) w9) := by
  refine Eq.trans (X_call f_64_172 (by decide) rfl rfl rfl rfl rfl rfl (Nat.le_of_ble_eq_true rfl) (Nat.le_of_ble_eq_true rfl) (decide_eq_true h0) (Nat.le_of_ble_eq_true rfl)) ?_
  exact mThen_eq fun v w9 => mX_mask rfl
theorem b_64_175 {d : Nat} {y0 : Int32} {w : MW} : mX d 64 175 [mJ, mJ, mJ] [.int y0] w = some (.inl (some (.int y0)), w) := by
  exact X_ireturn f_64_175 rfl
theorem b_64_176 {d : Nat} {a0 : Nat} {x1 : Int32} {w : MW} (h0 : mTg w a0 = 6) (h1 : mR w a0 1 = some (gR w a0 1)) (h2 : mTg w (gR w a0 1) = 8) (h3 : mR w (gR w a0 1) 11 = some (gR w (gR w a0 1) 11)) : mX (d + 1) 64 176 [.ref a0, .int x1, mJ] [] w = mThen (mK d 65 [.ref a0, .int (nI 4)] w) (fun v w9 => mX (d + 1) 64 193 [mJ, mJ, mJ] (v.toList ++ [.ref (gR w (gR w a0 1) 11), .int (nI 9), .int (nI 1), .int x1, .ref a0]) w9) := by
  refine Eq.trans (X_st f_64_176 rfl rfl) ?_
  refine Eq.trans (X_st f_64_177 rfl rfl) ?_
  refine Eq.trans (X_iconst f_64_178 kc_i_1) ?_
  refine Eq.trans (X_bipush f_64_179 kc_b_9) ?_
  refine Eq.trans (X_st f_64_181 rfl rfl) ?_
  refine Eq.trans (X_getR f_64_182 h0 rfl h1) ?_
  refine Eq.trans (X_getR f_64_185 h2 rfl h3) ?_
  refine Eq.trans (X_st f_64_188 rfl rfl) ?_
  refine Eq.trans (X_iconst f_64_189 kc_i_4) ?_
  refine Eq.trans (X_call f_64_190 (by decide) rfl rfl rfl rfl rfl rfl (Nat.le_of_ble_eq_true rfl) (Nat.le_of_ble_eq_true rfl) (decide_eq_true h0) (Nat.le_of_ble_eq_true rfl)) ?_
  exact mThen_eq fun v w9 => mX_mask rfl
theorem b_64_193 {d : Nat} {y0 : Int32} {b1 : Nat} {y2 : Int32} {y3 : Int32} {y4 : Int32} {b5 : Nat} {w : MW} (h0 : mTg w b5 = 6) : mX (d + 1) 64 193 [mJ, mJ, mJ] [.int y0, .ref b1, .int y2, .int y3, .int y4, .ref b5] w = mThen (mK d 71 [.ref b5, .int y4, .int y3, .int y2, .ref b1, .int y0] w) (fun v w9 => mX (d + 1) 64 196 [mJ, mJ, mJ] (v.toList ++ []) w9) := by
  refine Eq.trans (X_call f_64_193 (by decide) rfl rfl rfl rfl rfl rfl (Nat.le_of_ble_eq_true rfl) (Nat.le_of_ble_eq_true rfl) (decide_eq_true h0) (Nat.le_of_ble_eq_true rfl)) ?_
  exact mThen_eq fun v w9 => mX_mask rfl
theorem b_64_196 {d : Nat} {y0 : Int32} {w : MW} : mX d 64 196 [mJ, mJ, mJ] [.int y0] w = some (.inl (some (.int y0)), w) := by
  exact X_ireturn f_64_196 rfl
theorem b_64_197 {d : Nat} {w : MW} : mX d 64 197 [mJ, mJ, mJ] [] w = some (.inl (some (.int (nI 0))), w) := by
  refine Eq.trans (X_iconst f_64_197 kc_i_0) ?_
  exact X_ireturn f_64_198 rfl
/-! BeeTurnpike$Teller last (I)I -/
theorem f_65_0 : mFetch 65 0 = some (.aload_n 0, 1, []) := by decide +kernel
theorem f_65_1 : mFetch 65 1 = some (.getfield 19, 3, [6, 1, 0, 293]) := by decide +kernel
theorem f_65_4 : mFetch 65 4 = some (.getfield 126, 3, [8, 0, 1, 82]) := by decide +kernel
theorem f_65_7 : mFetch 65 7 = some (.iload_n 1, 1, []) := by decide +kernel
theorem f_65_8 : mFetch 65 8 = some (.invokestatic 48, 3, [123, 2, 1, 0, 67, 559]) := by decide +kernel
theorem f_65_11 : mFetch 65 11 = some (.iconst 1, 1, []) := by decide +kernel
theorem f_65_12 : mFetch 65 12 = some (.isub, 1, []) := by decide +kernel
theorem f_65_13 : mFetch 65 13 = some (.ireturn, 1, [0]) := by decide +kernel
theorem b_65_0 {d : Nat} {a0 : Nat} {x1 : Int32} {w : MW} (h0 : mTg w a0 = 6) (h1 : mR w a0 1 = some (gR w a0 1)) (h2 : mTg w (gR w a0 1) = 8) (h3 : mR w (gR w a0 1) 0 = some (gR w (gR w a0 1) 0)) : mX (d + 1) 65 0 [.ref a0, .int x1] [] w = mThen (mK d 123 [.ref (gR w (gR w a0 1) 0), .int x1] w) (fun v w9 => mX (d + 1) 65 11 [mJ, mJ] (v.toList ++ []) w9) := by
  refine Eq.trans (X_st f_65_0 rfl rfl) ?_
  refine Eq.trans (X_getR f_65_1 h0 rfl h1) ?_
  refine Eq.trans (X_getR f_65_4 h2 rfl h3) ?_
  refine Eq.trans (X_st f_65_7 rfl rfl) ?_
  refine Eq.trans (X_call f_65_8 (by decide) rfl rfl rfl rfl rfl rfl (Nat.le_of_ble_eq_true rfl) (Nat.le_of_ble_eq_true rfl) rfl (Nat.le_of_ble_eq_true rfl)) ?_
  exact mThen_eq fun v w9 => mX_mask rfl
theorem e_65 {d : Nat} {a0 : Nat} {x1 : Int32} {w : MW} : mK d 65 [.ref a0, .int x1] w = mX d 65 0 [.ref a0, .int x1] [] w := rfl
theorem b_65_11 {d : Nat} {y0 : Int32} {w : MW} : mX d 65 11 [mJ, mJ] [.int y0] w = some (.inl (some (.int (y0 - (nI 1)))), w) := by
  refine Eq.trans (X_iconst f_65_11 kc_i_1) ?_
  refine Eq.trans (X_st f_65_12 rfl rfl) ?_
  exact X_ireturn f_65_13 rfl
/-! BeeTurnpike$Teller find (II)I -/
theorem f_66_0 : mFetch 66 0 = some (.iconst 0, 1, []) := by decide +kernel
theorem f_66_1 : mFetch 66 1 = some (.istore_n 3, 1, []) := by decide +kernel
theorem f_66_2 : mFetch 66 2 = some (.iload_n 3, 1, []) := by decide +kernel
theorem f_66_3 : mFetch 66 3 = some (.aload_n 0, 1, []) := by decide +kernel
theorem f_66_4 : mFetch 66 4 = some (.getfield 19, 3, [6, 1, 0, 293]) := by decide +kernel
theorem f_66_7 : mFetch 66 7 = some (.getfield 126, 3, [8, 0, 1, 82]) := by decide +kernel
theorem f_66_10 : mFetch 66 10 = some (.iload_n 1, 1, []) := by decide +kernel
theorem f_66_11 : mFetch 66 11 = some (.invokestatic 48, 3, [123, 2, 1, 0, 67, 559]) := by decide +kernel
theorem f_66_14 : mFetch 66 14 = some (.if_icmp .ge 35, 3, [49]) := by decide +kernel
theorem f_66_17 : mFetch 66 17 = some (.aload_n 0, 1, []) := by decide +kernel
theorem f_66_18 : mFetch 66 18 = some (.getfield 15, 3, [6, 0, 0, 292]) := by decide +kernel
theorem f_66_21 : mFetch 66 21 = some (.iload_n 2, 1, []) := by decide +kernel
theorem f_66_22 : mFetch 66 22 = some (.aload_n 0, 1, []) := by decide +kernel
theorem f_66_23 : mFetch 66 23 = some (.getfield 9, 3, [6, 2, 0, 294]) := by decide +kernel
theorem f_66_26 : mFetch 66 26 = some (.iload_n 1, 1, []) := by decide +kernel
theorem f_66_27 : mFetch 66 27 = some (.bipush 12, 2, []) := by decide +kernel
theorem f_66_29 : mFetch 66 29 = some (.imul, 1, []) := by decide +kernel
theorem f_66_30 : mFetch 66 30 = some (.iload_n 3, 1, []) := by decide +kernel
theorem f_66_31 : mFetch 66 31 = some (.iadd, 1, []) := by decide +kernel
theorem f_66_32 : mFetch 66 32 = some (.invokestatic 48, 3, [123, 2, 1, 0, 67, 559]) := by decide +kernel
theorem f_66_35 : mFetch 66 35 = some (.invokevirtual 129, 3, [83, 3, 2, 7, 1267, 1268, 1269]) := by decide +kernel
theorem f_66_38 : mFetch 66 38 = some (.ifCond .eq 5, 3, [43]) := by decide +kernel
theorem f_66_41 : mFetch 66 41 = some (.iload_n 3, 1, []) := by decide +kernel
theorem f_66_42 : mFetch 66 42 = some (.ireturn, 1, [0]) := by decide +kernel
theorem f_66_43 : mFetch 66 43 = some (.iinc 3 1, 3, []) := by decide +kernel
theorem f_66_46 : mFetch 66 46 = some (.goto (-44), 3, [2]) := by decide +kernel
theorem f_66_49 : mFetch 66 49 = some (.iconst (-1), 1, []) := by decide +kernel
theorem f_66_50 : mFetch 66 50 = some (.ireturn, 1, [0]) := by decide +kernel
theorem b_66_0 {d : Nat} {a0 : Nat} {x1 : Int32} {x2 : Int32} {w : MW} : mX d 66 0 [.ref a0, .int x1, .int x2, mJ] [] w = mX d 66 2 [.ref a0, .int x1, .int x2, .int (nI 0)] [] w := by
  refine Eq.trans (X_iconst f_66_0 kc_i_0) ?_
  refine Eq.trans (X_istore_n (L' := [.ref a0, .int x1, .int x2, .int (nI 0)]) f_66_1 (Nat.le_of_ble_eq_true rfl) rfl) ?_
  exact mX_mask rfl
theorem e_66 {d : Nat} {a0 : Nat} {x1 : Int32} {x2 : Int32} {w : MW} : mK d 66 [.ref a0, .int x1, .int x2] w = mX d 66 0 [.ref a0, .int x1, .int x2, mJ] [] w := rfl
theorem b_66_2 {d : Nat} {a0 : Nat} {x1 : Int32} {x2 : Int32} {x3 : Int32} {w : MW} (h0 : mTg w a0 = 6) (h1 : mR w a0 1 = some (gR w a0 1)) (h2 : mTg w (gR w a0 1) = 8) (h3 : mR w (gR w a0 1) 0 = some (gR w (gR w a0 1) 0)) : mX (d + 1) 66 2 [.ref a0, .int x1, .int x2, .int x3] [] w = mThen (mK d 123 [.ref (gR w (gR w a0 1) 0), .int x1] w) (fun v w9 => mX (d + 1) 66 14 [.ref a0, .int x1, .int x2, .int x3] (v.toList ++ [.int x3]) w9) := by
  refine Eq.trans (X_st f_66_2 rfl rfl) ?_
  refine Eq.trans (X_st f_66_3 rfl rfl) ?_
  refine Eq.trans (X_getR f_66_4 h0 rfl h1) ?_
  refine Eq.trans (X_getR f_66_7 h2 rfl h3) ?_
  refine Eq.trans (X_st f_66_10 rfl rfl) ?_
  refine Eq.trans (X_call f_66_11 (by decide) rfl rfl rfl rfl rfl rfl (Nat.le_of_ble_eq_true rfl) (Nat.le_of_ble_eq_true rfl) rfl (Nat.le_of_ble_eq_true rfl)) ?_
  exact mThen_eq fun v w9 => mX_mask rfl
theorem b_66_14 {d : Nat} {a0 : Nat} {x1 : Int32} {x2 : Int32} {x3 : Int32} {y0 : Int32} {y1 : Int32} {w : MW} : mX d 66 14 [.ref a0, .int x1, .int x2, .int x3] [.int y0, .int y1] w = (if y0 ≤ y1 then mX d 66 49 [mJ, mJ, mJ, mJ] [] w else mX d 66 17 [.ref a0, .int x1, .int x2, .int x3] [] w) := by
  refine Eq.trans (X_br f_66_14 rfl rfl) ?_
  exact mIte_eq (mX_mask rfl) (mX_mask rfl)
theorem b_66_17 {d : Nat} {a0 : Nat} {x1 : Int32} {x2 : Int32} {x3 : Int32} {w : MW} (h0 : mTg w a0 = 6) (h1 : mR w a0 0 = some (gR w a0 0)) (h2 : mR w a0 2 = some (gR w a0 2)) : mX (d + 1) 66 17 [.ref a0, .int x1, .int x2, .int x3] [] w = mThen (mK d 123 [.ref (gR w a0 2), .int ((x1 * (nI 12)) + x3)] w) (fun v w9 => mX (d + 1) 66 35 [.ref a0, .int x1, .int x2, .int x3] (v.toList ++ [.int x2, .ref (gR w a0 0)]) w9) := by
  refine Eq.trans (X_st f_66_17 rfl rfl) ?_
  refine Eq.trans (X_getR f_66_18 h0 rfl h1) ?_
  refine Eq.trans (X_st f_66_21 rfl rfl) ?_
  refine Eq.trans (X_st f_66_22 rfl rfl) ?_
  refine Eq.trans (X_getR f_66_23 h0 rfl h2) ?_
  refine Eq.trans (X_st f_66_26 rfl rfl) ?_
  refine Eq.trans (X_bipush f_66_27 kc_b_12) ?_
  refine Eq.trans (X_st f_66_29 rfl rfl) ?_
  refine Eq.trans (X_st f_66_30 rfl rfl) ?_
  refine Eq.trans (X_st f_66_31 rfl rfl) ?_
  refine Eq.trans (X_call f_66_32 (by decide) rfl rfl rfl rfl rfl rfl (Nat.le_of_ble_eq_true rfl) (Nat.le_of_ble_eq_true rfl) rfl (Nat.le_of_ble_eq_true rfl)) ?_
  exact mThen_eq fun v w9 => mX_mask rfl
theorem b_66_35 {d : Nat} {a0 : Nat} {x1 : Int32} {x2 : Int32} {x3 : Int32} {y0 : Int32} {y1 : Int32} {b2 : Nat} {w : MW} (h0 : mTg w b2 = 7) : mX (d + 1) 66 35 [.ref a0, .int x1, .int x2, .int x3] [.int y0, .int y1, .ref b2] w = mThen (mK d 83 [.ref b2, .int y1, .int y0] w) (fun v w9 => mX (d + 1) 66 38 [.ref a0, .int x1, .int x2, .int x3] (v.toList ++ []) w9) := by
  refine Eq.trans (X_call f_66_35 (by decide) rfl rfl rfl rfl rfl rfl (Nat.le_of_ble_eq_true rfl) (Nat.le_of_ble_eq_true rfl) (decide_eq_true h0) (Nat.le_of_ble_eq_true rfl)) ?_
  exact mThen_eq fun v w9 => mX_mask rfl
theorem b_66_38 {d : Nat} {a0 : Nat} {x1 : Int32} {x2 : Int32} {x3 : Int32} {y0 : Int32} {w : MW} : mX d 66 38 [.ref a0, .int x1, .int x2, .int x3] [.int y0] w = (if y0 = nI 0 then mX d 66 43 [.ref a0, .int x1, .int x2, .int x3] [] w else mX d 66 41 [mJ, mJ, mJ, .int x3] [] w) := by
  refine Eq.trans (X_br f_66_38 rfl rfl) ?_
  exact mIte_eq (mX_mask rfl) (mX_mask rfl)
theorem b_66_41 {d : Nat} {x3 : Int32} {w : MW} : mX d 66 41 [mJ, mJ, mJ, .int x3] [] w = some (.inl (some (.int x3)), w) := by
  refine Eq.trans (X_st f_66_41 rfl rfl) ?_
  exact X_ireturn f_66_42 rfl
theorem b_66_43 {d : Nat} {a0 : Nat} {x1 : Int32} {x2 : Int32} {x3 : Int32} {w : MW} : mX d 66 43 [.ref a0, .int x1, .int x2, .int x3] [] w = mX d 66 2 [.ref a0, .int x1, .int x2, .int (x3 + (nI 1))] [] w := by
  refine Eq.trans (X_iinc f_66_43 kc_i_1 rfl rfl) ?_
  refine Eq.trans (X_st f_66_46 rfl rfl) ?_
  exact mX_mask rfl
theorem b_66_49 {d : Nat} {w : MW} : mX d 66 49 [mJ, mJ, mJ, mJ] [] w = some (.inl (some (.int (-1 : Int32))), w) := by
  refine Eq.trans (X_iconst f_66_49 kc_i_m1) ?_
  exact X_ireturn f_66_50 rfl
/-! BeeTurnpike$Teller addNew (III)I -/
theorem f_67_0 : mFetch 67 0 = some (.aload_n 0, 1, []) := by decide +kernel
theorem f_67_1 : mFetch 67 1 = some (.iload_n 1, 1, []) := by decide +kernel
theorem f_67_2 : mFetch 67 2 = some (.iload_n 3, 1, []) := by decide +kernel
theorem f_67_3 : mFetch 67 3 = some (.invokevirtual 73, 3, [66, 3, 2, 6, 1263, 1265, 56]) := by decide +kernel
theorem f_67_6 : mFetch 67 6 = some (.ifCond .lt 5, 3, [11]) := by decide +kernel
theorem f_67_9 : mFetch 67 9 = some (.iconst 2, 1, []) := by decide +kernel
theorem f_67_10 : mFetch 67 10 = some (.ireturn, 1, [0]) := by decide +kernel
theorem f_67_11 : mFetch 67 11 = some (.aload_n 0, 1, []) := by decide +kernel
theorem f_67_12 : mFetch 67 12 = some (.getfield 19, 3, [6, 1, 0, 293]) := by decide +kernel
theorem f_67_15 : mFetch 67 15 = some (.getfield 126, 3, [8, 0, 1, 82]) := by decide +kernel
theorem f_67_18 : mFetch 67 18 = some (.iload_n 1, 1, []) := by decide +kernel
theorem f_67_19 : mFetch 67 19 = some (.invokestatic 48, 3, [123, 2, 1, 0, 67, 559]) := by decide +kernel
theorem f_67_22 : mFetch 67 22 = some (.istore 4, 2, []) := by decide +kernel
theorem f_67_24 : mFetch 67 24 = some (.iload 4, 2, []) := by decide +kernel
theorem f_67_26 : mFetch 67 26 = some (.iload_n 2, 1, []) := by decide +kernel
theorem f_67_27 : mFetch 67 27 = some (.if_icmp .lt 5, 3, [32]) := by decide +kernel
theorem f_67_30 : mFetch 67 30 = some (.iconst 4, 1, []) := by decide +kernel
theorem f_67_31 : mFetch 67 31 = some (.ireturn, 1, [0]) := by decide +kernel
theorem f_67_32 : mFetch 67 32 = some (.aload_n 0, 1, []) := by decide +kernel
theorem f_67_33 : mFetch 67 33 = some (.getfield 9, 3, [6, 2, 0, 294]) := by decide +kernel
theorem f_67_36 : mFetch 67 36 = some (.iload_n 1, 1, []) := by decide +kernel
theorem f_67_37 : mFetch 67 37 = some (.bipush 12, 2, []) := by decide +kernel
theorem f_67_39 : mFetch 67 39 = some (.imul, 1, []) := by decide +kernel
theorem f_67_40 : mFetch 67 40 = some (.iload 4, 2, []) := by decide +kernel
theorem f_67_42 : mFetch 67 42 = some (.iadd, 1, []) := by decide +kernel
theorem f_67_43 : mFetch 67 43 = some (.iload_n 3, 1, []) := by decide +kernel
theorem f_67_44 : mFetch 67 44 = some (.invokestatic 133, 3, [124, 3, 1, 0, 83, 689]) := by decide +kernel
theorem f_67_47 : mFetch 67 47 = some (.aload_n 0, 1, []) := by decide +kernel
theorem f_67_48 : mFetch 67 48 = some (.getfield 19, 3, [6, 1, 0, 293]) := by decide +kernel
theorem f_67_51 : mFetch 67 51 = some (.getfield 126, 3, [8, 0, 1, 82]) := by decide +kernel
theorem f_67_54 : mFetch 67 54 = some (.iload_n 1, 1, []) := by decide +kernel
theorem f_67_55 : mFetch 67 55 = some (.iload 4, 2, []) := by decide +kernel
theorem f_67_57 : mFetch 67 57 = some (.iconst 1, 1, []) := by decide +kernel
theorem f_67_58 : mFetch 67 58 = some (.iadd, 1, []) := by decide +kernel
theorem f_67_59 : mFetch 67 59 = some (.invokestatic 133, 3, [124, 3, 1, 0, 83, 689]) := by decide +kernel
theorem f_67_62 : mFetch 67 62 = some (.iconst 0, 1, []) := by decide +kernel
theorem f_67_63 : mFetch 67 63 = some (.ireturn, 1, [0]) := by decide +kernel
theorem b_67_0 {d : Nat} {a0 : Nat} {x1 : Int32} {x2 : Int32} {x3 : Int32} {w : MW} (h0 : mTg w a0 = 6) : mX (d + 1) 67 0 [.ref a0, .int x1, .int x2, .int x3, mJ] [] w = mThen (mK d 66 [.ref a0, .int x1, .int x3] w) (fun v w9 => mX (d + 1) 67 6 [.ref a0, .int x1, .int x2, .int x3, mJ] (v.toList ++ []) w9) := by
  refine Eq.trans (X_st f_67_0 rfl rfl) ?_
  refine Eq.trans (X_st f_67_1 rfl rfl) ?_
  refine Eq.trans (X_st f_67_2 rfl rfl) ?_
  refine Eq.trans (X_call f_67_3 (by decide) rfl rfl rfl rfl rfl rfl (Nat.le_of_ble_eq_true rfl) (Nat.le_of_ble_eq_true rfl) (decide_eq_true h0) (Nat.le_of_ble_eq_true rfl)) ?_
  exact mThen_eq fun v w9 => mX_mask rfl
theorem e_67 {d : Nat} {a0 : Nat} {x1 : Int32} {x2 : Int32} {x3 : Int32} {w : MW} : mK d 67 [.ref a0, .int x1, .int x2, .int x3] w = mX d 67 0 [.ref a0, .int x1, .int x2, .int x3, mJ] [] w := rfl
theorem b_67_6 {d : Nat} {a0 : Nat} {x1 : Int32} {x2 : Int32} {x3 : Int32} {y0 : Int32} {w : MW} : mX d 67 6 [.ref a0, .int x1, .int x2, .int x3, mJ] [.int y0] w = (if y0 < nI 0 then mX d 67 11 [.ref a0, .int x1, .int x2, .int x3, mJ] [] w else mX d 67 9 [mJ, mJ, mJ, mJ, mJ] [] w) := by
  refine Eq.trans (X_br f_67_6 rfl rfl) ?_
  exact mIte_eq (mX_mask rfl) (mX_mask rfl)
theorem b_67_9 {d : Nat} {w : MW} : mX d 67 9 [mJ, mJ, mJ, mJ, mJ] [] w = some (.inl (some (.int (nI 2))), w) := by
  refine Eq.trans (X_iconst f_67_9 kc_i_2) ?_
  exact X_ireturn f_67_10 rfl
theorem b_67_11 {d : Nat} {a0 : Nat} {x1 : Int32} {x2 : Int32} {x3 : Int32} {w : MW} (h0 : mTg w a0 = 6) (h1 : mR w a0 1 = some (gR w a0 1)) (h2 : mTg w (gR w a0 1) = 8) (h3 : mR w (gR w a0 1) 0 = some (gR w (gR w a0 1) 0)) : mX (d + 1) 67 11 [.ref a0, .int x1, .int x2, .int x3, mJ] [] w = mThen (mK d 123 [.ref (gR w (gR w a0 1) 0), .int x1] w) (fun v w9 => mX (d + 1) 67 22 [.ref a0, .int x1, .int x2, .int x3, mJ] (v.toList ++ []) w9) := by
  refine Eq.trans (X_st f_67_11 rfl rfl) ?_
  refine Eq.trans (X_getR f_67_12 h0 rfl h1) ?_
  refine Eq.trans (X_getR f_67_15 h2 rfl h3) ?_
  refine Eq.trans (X_st f_67_18 rfl rfl) ?_
  refine Eq.trans (X_call f_67_19 (by decide) rfl rfl rfl rfl rfl rfl (Nat.le_of_ble_eq_true rfl) (Nat.le_of_ble_eq_true rfl) rfl (Nat.le_of_ble_eq_true rfl)) ?_
  exact mThen_eq fun v w9 => mX_mask rfl
theorem b_67_22 {d : Nat} {a0 : Nat} {x1 : Int32} {x2 : Int32} {x3 : Int32} {y0 : Int32} {w : MW} : mX d 67 22 [.ref a0, .int x1, .int x2, .int x3, mJ] [.int y0] w = (if y0 < x2 then mX d 67 32 [.ref a0, .int x1, mJ, .int x3, .int y0] [] w else mX d 67 30 [mJ, mJ, mJ, mJ, mJ] [] w) := by
  refine Eq.trans (X_istore (L' := [.ref a0, .int x1, .int x2, .int x3, .int y0]) f_67_22 (Nat.le_of_ble_eq_true rfl) rfl) ?_
  refine Eq.trans (X_st f_67_24 rfl rfl) ?_
  refine Eq.trans (X_st f_67_26 rfl rfl) ?_
  refine Eq.trans (X_br f_67_27 rfl rfl) ?_
  exact mIte_eq (mX_mask rfl) (mX_mask rfl)
theorem b_67_30 {d : Nat} {w : MW} : mX d 67 30 [mJ, mJ, mJ, mJ, mJ] [] w = some (.inl (some (.int (nI 4))), w) := by
  refine Eq.trans (X_iconst f_67_30 kc_i_4) ?_
  exact X_ireturn f_67_31 rfl
theorem b_67_32 {d : Nat} {a0 : Nat} {x1 : Int32} {x3 : Int32} {x4 : Int32} {w : MW} (h0 : mTg w a0 = 6) (h1 : mR w a0 2 = some (gR w a0 2)) : mX (d + 1) 67 32 [.ref a0, .int x1, mJ, .int x3, .int x4] [] w = mThen (mK d 124 [.ref (gR w a0 2), .int ((x1 * (nI 12)) + x4), .int x3] w) (fun v w9 => mX (d + 1) 67 47 [.ref a0, .int x1, mJ, mJ, .int x4] (v.toList ++ []) w9) := by
  refine Eq.trans (X_st f_67_32 rfl rfl) ?_
  refine Eq.trans (X_getR f_67_33 h0 rfl h1) ?_
  refine Eq.trans (X_st f_67_36 rfl rfl) ?_
  refine Eq.trans (X_bipush f_67_37 kc_b_12) ?_
  refine Eq.trans (X_st f_67_39 rfl rfl) ?_
  refine Eq.trans (X_st f_67_40 rfl rfl) ?_
  refine Eq.trans (X_st f_67_42 rfl rfl) ?_
  refine Eq.trans (X_st f_67_43 rfl rfl) ?_
  refine Eq.trans (X_call f_67_44 (by decide) rfl rfl rfl rfl rfl rfl (Nat.le_of_ble_eq_true rfl) (Nat.le_of_ble_eq_true rfl) rfl (Nat.le_of_ble_eq_true rfl)) ?_
  exact mThen_eq fun v w9 => mX_mask rfl
theorem b_67_47 {d : Nat} {a0 : Nat} {x1 : Int32} {x4 : Int32} {w : MW} (h0 : mTg w a0 = 6) (h1 : mR w a0 1 = some (gR w a0 1)) (h2 : mTg w (gR w a0 1) = 8) (h3 : mR w (gR w a0 1) 0 = some (gR w (gR w a0 1) 0)) : mX (d + 1) 67 47 [.ref a0, .int x1, mJ, mJ, .int x4] [] w = mThen (mK d 124 [.ref (gR w (gR w a0 1) 0), .int x1, .int (x4 + (nI 1))] w) (fun v w9 => mX (d + 1) 67 62 [mJ, mJ, mJ, mJ, mJ] (v.toList ++ []) w9) := by
  refine Eq.trans (X_st f_67_47 rfl rfl) ?_
  refine Eq.trans (X_getR f_67_48 h0 rfl h1) ?_
  refine Eq.trans (X_getR f_67_51 h2 rfl h3) ?_
  refine Eq.trans (X_st f_67_54 rfl rfl) ?_
  refine Eq.trans (X_st f_67_55 rfl rfl) ?_
  refine Eq.trans (X_iconst f_67_57 kc_i_1) ?_
  refine Eq.trans (X_st f_67_58 rfl rfl) ?_
  refine Eq.trans (X_call f_67_59 (by decide) rfl rfl rfl rfl rfl rfl (Nat.le_of_ble_eq_true rfl) (Nat.le_of_ble_eq_true rfl) rfl (Nat.le_of_ble_eq_true rfl)) ?_
  exact mThen_eq fun v w9 => mX_mask rfl
theorem b_67_62 {d : Nat} {w : MW} : mX d 67 62 [mJ, mJ, mJ, mJ, mJ] [] w = some (.inl (some (.int (nI 0))), w) := by
  refine Eq.trans (X_iconst f_67_62 kc_i_0) ?_
  exact X_ireturn f_67_63 rfl
/-! BeeTurnpike$Teller addOrder (I)I -/
theorem f_68_0 : mFetch 68 0 = some (.aload_n 0, 1, []) := by decide +kernel
theorem f_68_1 : mFetch 68 1 = some (.getfield 19, 3, [6, 1, 0, 293]) := by decide +kernel
theorem f_68_4 : mFetch 68 4 = some (.getfield 126, 3, [8, 0, 1, 82]) := by decide +kernel
theorem f_68_7 : mFetch 68 7 = some (.iconst 5, 1, []) := by decide +kernel
theorem f_68_8 : mFetch 68 8 = some (.invokestatic 48, 3, [123, 2, 1, 0, 67, 559]) := by decide +kernel
theorem f_68_11 : mFetch 68 11 = some (.istore_n 2, 1, []) := by decide +kernel
theorem f_68_12 : mFetch 68 12 = some (.iload_n 2, 1, []) := by decide +kernel
theorem f_68_13 : mFetch 68 13 = some (.bipush 20, 2, []) := by decide +kernel
theorem f_68_15 : mFetch 68 15 = some (.if_icmp .lt 5, 3, [20]) := by decide +kernel
theorem f_68_18 : mFetch 68 18 = some (.iconst 4, 1, []) := by decide +kernel
theorem f_68_19 : mFetch 68 19 = some (.ireturn, 1, [0]) := by decide +kernel
theorem f_68_20 : mFetch 68 20 = some (.aload_n 0, 1, []) := by decide +kernel
theorem f_68_21 : mFetch 68 21 = some (.getfield 19, 3, [6, 1, 0, 293]) := by decide +kernel
theorem f_68_24 : mFetch 68 24 = some (.getfield 137, 3, [8, 14, 1, 84]) := by decide +kernel
theorem f_68_27 : mFetch 68 27 = some (.iload_n 2, 1, []) := by decide +kernel
theorem f_68_28 : mFetch 68 28 = some (.aload_n 0, 1, []) := by decide +kernel
theorem f_68_29 : mFetch 68 29 = some (.getfield 15, 3, [6, 0, 0, 292]) := by decide +kernel
theorem f_68_32 : mFetch 68 32 = some (.getfield 140, 3, [7, 1, 1, 85]) := by decide +kernel
theorem f_68_35 : mFetch 68 35 = some (.iload_n 1, 1, []) := by decide +kernel
theorem f_68_36 : mFetch 68 36 = some (.invokestatic 48, 3, [123, 2, 1, 0, 67, 559]) := by decide +kernel
theorem f_68_39 : mFetch 68 39 = some (.invokestatic 133, 3, [124, 3, 1, 0, 83, 689]) := by decide +kernel
theorem f_68_42 : mFetch 68 42 = some (.aload_n 0, 1, []) := by decide +kernel
theorem f_68_43 : mFetch 68 43 = some (.getfield 19, 3, [6, 1, 0, 293]) := by decide +kernel
theorem f_68_46 : mFetch 68 46 = some (.getfield 143, 3, [8, 16, 1, 86]) := by decide +kernel
theorem f_68_49 : mFetch 68 49 = some (.iload_n 2, 1, []) := by decide +kernel
theorem f_68_50 : mFetch 68 50 = some (.aload_n 0, 1, []) := by decide +kernel
theorem f_68_51 : mFetch 68 51 = some (.getfield 15, 3, [6, 0, 0, 292]) := by decide +kernel
theorem f_68_54 : mFetch 68 54 = some (.getfield 98, 3, [7, 5, 1, 74]) := by decide +kernel
theorem f_68_57 : mFetch 68 57 = some (.iload_n 1, 1, []) := by decide +kernel
theorem f_68_58 : mFetch 68 58 = some (.invokestatic 48, 3, [123, 2, 1, 0, 67, 559]) := by decide +kernel
theorem f_68_61 : mFetch 68 61 = some (.invokestatic 133, 3, [124, 3, 1, 0, 83, 689]) := by decide +kernel
theorem f_68_64 : mFetch 68 64 = some (.aload_n 0, 1, []) := by decide +kernel
theorem f_68_65 : mFetch 68 65 = some (.getfield 19, 3, [6, 1, 0, 293]) := by decide +kernel
theorem f_68_68 : mFetch 68 68 = some (.getfield 126, 3, [8, 0, 1, 82]) := by decide +kernel
theorem f_68_71 : mFetch 68 71 = some (.iconst 5, 1, []) := by decide +kernel
theorem f_68_72 : mFetch 68 72 = some (.iload_n 2, 1, []) := by decide +kernel
theorem f_68_73 : mFetch 68 73 = some (.iconst 1, 1, []) := by decide +kernel
theorem f_68_74 : mFetch 68 74 = some (.iadd, 1, []) := by decide +kernel
theorem f_68_75 : mFetch 68 75 = some (.invokestatic 133, 3, [124, 3, 1, 0, 83, 689]) := by decide +kernel
theorem f_68_78 : mFetch 68 78 = some (.iconst 0, 1, []) := by decide +kernel
theorem f_68_79 : mFetch 68 79 = some (.ireturn, 1, [0]) := by decide +kernel
theorem b_68_0 {d : Nat} {a0 : Nat} {x1 : Int32} {w : MW} (h0 : mTg w a0 = 6) (h1 : mR w a0 1 = some (gR w a0 1)) (h2 : mTg w (gR w a0 1) = 8) (h3 : mR w (gR w a0 1) 0 = some (gR w (gR w a0 1) 0)) : mX (d + 1) 68 0 [.ref a0, .int x1, mJ] [] w = mThen (mK d 123 [.ref (gR w (gR w a0 1) 0), .int (nI 5)] w) (fun v w9 => mX (d + 1) 68 11 [.ref a0, .int x1, mJ] (v.toList ++ []) w9) := by
  refine Eq.trans (X_st f_68_0 rfl rfl) ?_
  refine Eq.trans (X_getR f_68_1 h0 rfl h1) ?_
  refine Eq.trans (X_getR f_68_4 h2 rfl h3) ?_
  refine Eq.trans (X_iconst f_68_7 kc_i_5) ?_
  refine Eq.trans (X_call f_68_8 (by decide) rfl rfl rfl rfl rfl rfl (Nat.le_of_ble_eq_true rfl) (Nat.le_of_ble_eq_true rfl) rfl (Nat.le_of_ble_eq_true rfl)) ?_
  exact mThen_eq fun v w9 => mX_mask rfl
theorem e_68 {d : Nat} {a0 : Nat} {x1 : Int32} {w : MW} : mK d 68 [.ref a0, .int x1] w = mX d 68 0 [.ref a0, .int x1, mJ] [] w := rfl
theorem b_68_11 {d : Nat} {a0 : Nat} {x1 : Int32} {y0 : Int32} {w : MW} : mX d 68 11 [.ref a0, .int x1, mJ] [.int y0] w = (if y0 < (nI 20) then mX d 68 20 [.ref a0, .int x1, .int y0] [] w else mX d 68 18 [mJ, mJ, mJ] [] w) := by
  refine Eq.trans (X_istore_n (L' := [.ref a0, .int x1, .int y0]) f_68_11 (Nat.le_of_ble_eq_true rfl) rfl) ?_
  refine Eq.trans (X_st f_68_12 rfl rfl) ?_
  refine Eq.trans (X_bipush f_68_13 kc_b_20) ?_
  refine Eq.trans (X_br f_68_15 rfl rfl) ?_
  exact mIte_eq (mX_mask rfl) (mX_mask rfl)
theorem b_68_18 {d : Nat} {w : MW} : mX d 68 18 [mJ, mJ, mJ] [] w = some (.inl (some (.int (nI 4))), w) := by
  refine Eq.trans (X_iconst f_68_18 kc_i_4) ?_
  exact X_ireturn f_68_19 rfl
theorem b_68_20 {d : Nat} {a0 : Nat} {x1 : Int32} {x2 : Int32} {w : MW} (h0 : mTg w a0 = 6) (h1 : mR w a0 1 = some (gR w a0 1)) (h2 : mTg w (gR w a0 1) = 8) (h3 : mR w (gR w a0 1) 14 = some (gR w (gR w a0 1) 14)) (h4 : mR w a0 0 = some (gR w a0 0)) (h5 : mTg w (gR w a0 0) = 7) (h6 : mR w (gR w a0 0) 1 = some (gR w (gR w a0 0) 1)) : mX (d + 1) 68 20 [.ref a0, .int x1, .int x2] [] w = mThen (mK d 123 [.ref (gR w (gR w a0 0) 1), .int x1] w) (fun v w9 => mX (d + 1) 68 39 [.ref a0, .int x1, .int x2] (v.toList ++ [.int x2, .ref (gR w (gR w a0 1) 14)]) w9) := by
  refine Eq.trans (X_st f_68_20 rfl rfl) ?_
  refine Eq.trans (X_getR f_68_21 h0 rfl h1) ?_
  refine Eq.trans (X_getR f_68_24 h2 rfl h3) ?_
  refine Eq.trans (X_st f_68_27 rfl rfl) ?_
  refine Eq.trans (X_st f_68_28 rfl rfl) ?_
  refine Eq.trans (X_getR f_68_29 h0 rfl h4) ?_
  refine Eq.trans (X_getR f_68_32 h5 rfl h6) ?_
  refine Eq.trans (X_st f_68_35 rfl rfl) ?_
  refine Eq.trans (X_call f_68_36 (by decide) rfl rfl rfl rfl rfl rfl (Nat.le_of_ble_eq_true rfl) (Nat.le_of_ble_eq_true rfl) rfl (Nat.le_of_ble_eq_true rfl)) ?_
  exact mThen_eq fun v w9 => mX_mask rfl
theorem b_68_39 {d : Nat} {a0 : Nat} {x1 : Int32} {x2 : Int32} {y0 : Int32} {y1 : Int32} {b2 : Nat} {w : MW} : mX (d + 1) 68 39 [.ref a0, .int x1, .int x2] [.int y0, .int y1, .ref b2] w = mThen (mK d 124 [.ref b2, .int y1, .int y0] w) (fun v w9 => mX (d + 1) 68 42 [.ref a0, .int x1, .int x2] (v.toList ++ []) w9) := by
  refine Eq.trans (X_call f_68_39 (by decide) rfl rfl rfl rfl rfl rfl (Nat.le_of_ble_eq_true rfl) (Nat.le_of_ble_eq_true rfl) rfl (Nat.le_of_ble_eq_true rfl)) ?_
  exact mThen_eq fun v w9 => mX_mask rfl
theorem b_68_42 {d : Nat} {a0 : Nat} {x1 : Int32} {x2 : Int32} {w : MW} (h0 : mTg w a0 = 6) (h1 : mR w a0 1 = some (gR w a0 1)) (h2 : mTg w (gR w a0 1) = 8) (h3 : mR w (gR w a0 1) 16 = some (gR w (gR w a0 1) 16)) (h4 : mR w a0 0 = some (gR w a0 0)) (h5 : mTg w (gR w a0 0) = 7) (h6 : mR w (gR w a0 0) 5 = some (gR w (gR w a0 0) 5)) : mX (d + 1) 68 42 [.ref a0, .int x1, .int x2] [] w = mThen (mK d 123 [.ref (gR w (gR w a0 0) 5), .int x1] w) (fun v w9 => mX (d + 1) 68 61 [.ref a0, mJ, .int x2] (v.toList ++ [.int x2, .ref (gR w (gR w a0 1) 16)]) w9) := by
  refine Eq.trans (X_st f_68_42 rfl rfl) ?_
  refine Eq.trans (X_getR f_68_43 h0 rfl h1) ?_
  refine Eq.trans (X_getR f_68_46 h2 rfl h3) ?_
  refine Eq.trans (X_st f_68_49 rfl rfl) ?_
  refine Eq.trans (X_st f_68_50 rfl rfl) ?_
  refine Eq.trans (X_getR f_68_51 h0 rfl h4) ?_
  refine Eq.trans (X_getR f_68_54 h5 rfl h6) ?_
  refine Eq.trans (X_st f_68_57 rfl rfl) ?_
  refine Eq.trans (X_call f_68_58 (by decide) rfl rfl rfl rfl rfl rfl (Nat.le_of_ble_eq_true rfl) (Nat.le_of_ble_eq_true rfl) rfl (Nat.le_of_ble_eq_true rfl)) ?_
  exact mThen_eq fun v w9 => mX_mask rfl
theorem b_68_61 {d : Nat} {a0 : Nat} {x2 : Int32} {y0 : Int32} {y1 : Int32} {b2 : Nat} {w : MW} : mX (d + 1) 68 61 [.ref a0, mJ, .int x2] [.int y0, .int y1, .ref b2] w = mThen (mK d 124 [.ref b2, .int y1, .int y0] w) (fun v w9 => mX (d + 1) 68 64 [.ref a0, mJ, .int x2] (v.toList ++ []) w9) := by
  refine Eq.trans (X_call f_68_61 (by decide) rfl rfl rfl rfl rfl rfl (Nat.le_of_ble_eq_true rfl) (Nat.le_of_ble_eq_true rfl) rfl (Nat.le_of_ble_eq_true rfl)) ?_
  exact mThen_eq fun v w9 => mX_mask rfl
theorem b_68_64 {d : Nat} {a0 : Nat} {x2 : Int32} {w : MW} (h0 : mTg w a0 = 6) (h1 : mR w a0 1 = some (gR w a0 1)) (h2 : mTg w (gR w a0 1) = 8) (h3 : mR w (gR w a0 1) 0 = some (gR w (gR w a0 1) 0)) : mX (d + 1) 68 64 [.ref a0, mJ, .int x2] [] w = mThen (mK d 124 [.ref (gR w (gR w a0 1) 0), .int (nI 5), .int (x2 + (nI 1))] w) (fun v w9 => mX (d + 1) 68 78 [mJ, mJ, mJ] (v.toList ++ []) w9) := by
  refine Eq.trans (X_st f_68_64 rfl rfl) ?_
  refine Eq.trans (X_getR f_68_65 h0 rfl h1) ?_
  refine Eq.trans (X_getR f_68_68 h2 rfl h3) ?_
  refine Eq.trans (X_iconst f_68_71 kc_i_5) ?_
  refine Eq.trans (X_st f_68_72 rfl rfl) ?_
  refine Eq.trans (X_iconst f_68_73 kc_i_1) ?_
  refine Eq.trans (X_st f_68_74 rfl rfl) ?_
  refine Eq.trans (X_call f_68_75 (by decide) rfl rfl rfl rfl rfl rfl (Nat.le_of_ble_eq_true rfl) (Nat.le_of_ble_eq_true rfl) rfl (Nat.le_of_ble_eq_true rfl)) ?_
  exact mThen_eq fun v w9 => mX_mask rfl
theorem b_68_78 {d : Nat} {w : MW} : mX d 68 78 [mJ, mJ, mJ] [] w = some (.inl (some (.int (nI 0))), w) := by
  refine Eq.trans (X_iconst f_68_78 kc_i_0) ?_
  exact X_ireturn f_68_79 rfl
/-! BeeTurnpike$Teller name (II[II)I -/
theorem f_69_0 : mFetch 69 0 = some (.aload_n 0, 1, []) := by decide +kernel
theorem f_69_1 : mFetch 69 1 = some (.iload_n 1, 1, []) := by decide +kernel
theorem f_69_2 : mFetch 69 2 = some (.iload_n 2, 1, []) := by decide +kernel
theorem f_69_3 : mFetch 69 3 = some (.invokevirtual 73, 3, [66, 3, 2, 6, 1263, 1265, 56]) := by decide +kernel
theorem f_69_6 : mFetch 69 6 = some (.istore 5, 2, []) := by decide +kernel
theorem f_69_8 : mFetch 69 8 = some (.iload 5, 2, []) := by decide +kernel
theorem f_69_10 : mFetch 69 10 = some (.ifCond .ge 5, 3, [15]) := by decide +kernel
theorem f_69_13 : mFetch 69 13 = some (.iconst 3, 1, []) := by decide +kernel
theorem f_69_14 : mFetch 69 14 = some (.ireturn, 1, [0]) := by decide +kernel
theorem f_69_15 : mFetch 69 15 = some (.aload_n 3, 1, []) := by decide +kernel
theorem f_69_16 : mFetch 69 16 = some (.iload 4, 2, []) := by decide +kernel
theorem f_69_18 : mFetch 69 18 = some (.iload 5, 2, []) := by decide +kernel
theorem f_69_20 : mFetch 69 20 = some (.invokestatic 133, 3, [124, 3, 1, 0, 83, 689]) := by decide +kernel
theorem f_69_23 : mFetch 69 23 = some (.iconst 0, 1, []) := by decide +kernel
theorem f_69_24 : mFetch 69 24 = some (.ireturn, 1, [0]) := by decide +kernel
theorem b_69_0 {d : Nat} {a0 : Nat} {x1 : Int32} {x2 : Int32} {a3 : Nat} {x4 : Int32} {w : MW} (h0 : mTg w a0 = 6) : mX (d + 1) 69 0 [.ref a0, .int x1, .int x2, .ref a3, .int x4, mJ] [] w = mThen (mK d 66 [.ref a0, .int x1, .int x2] w) (fun v w9 => mX (d + 1) 69 6 [mJ, mJ, mJ, .ref a3, .int x4, mJ] (v.toList ++ []) w9) := by
  refine Eq.trans (X_st f_69_0 rfl rfl) ?_
  refine Eq.trans (X_st f_69_1 rfl rfl) ?_
  refine Eq.trans (X_st f_69_2 rfl rfl) ?_
  refine Eq.trans (X_call f_69_3 (by decide) rfl rfl rfl rfl rfl rfl (Nat.le_of_ble_eq_true rfl) (Nat.le_of_ble_eq_true rfl) (decide_eq_true h0) (Nat.le_of_ble_eq_true rfl)) ?_
  exact mThen_eq fun v w9 => mX_mask rfl
theorem e_69 {d : Nat} {a0 : Nat} {x1 : Int32} {x2 : Int32} {a3 : Nat} {x4 : Int32} {w : MW} : mK d 69 [.ref a0, .int x1, .int x2, .ref a3, .int x4] w = mX d 69 0 [.ref a0, .int x1, .int x2, .ref a3, .int x4, mJ] [] w := rfl
theorem b_69_6 {d : Nat} {a3 : Nat} {x4 : Int32} {y0 : Int32} {w : MW} : mX d 69 6 [mJ, mJ, mJ, .ref a3, .int x4, mJ] [.int y0] w = (if nI 0 ≤ y0 then mX d 69 15 [mJ, mJ, mJ, .ref a3, .int x4, .int y0] [] w else mX d 69 13 [mJ, mJ, mJ, mJ, mJ, mJ] [] w) := by
  refine Eq.trans (X_istore (L' := [mJ, mJ, mJ, .ref a3, .int x4, .int y0]) f_69_6 (Nat.le_of_ble_eq_true rfl) rfl) ?_
  refine Eq.trans (X_st f_69_8 rfl rfl) ?_
  refine Eq.trans (X_br f_69_10 rfl rfl) ?_
  exact mIte_eq (mX_mask rfl) (mX_mask rfl)
theorem b_69_13 {d : Nat} {w : MW} : mX d 69 13 [mJ, mJ, mJ, mJ, mJ, mJ] [] w = some (.inl (some (.int (nI 3))), w) := by
  refine Eq.trans (X_iconst f_69_13 kc_i_3) ?_
  exact X_ireturn f_69_14 rfl
theorem b_69_15 {d : Nat} {a3 : Nat} {x4 : Int32} {x5 : Int32} {w : MW} : mX (d + 1) 69 15 [mJ, mJ, mJ, .ref a3, .int x4, .int x5] [] w = mThen (mK d 124 [.ref a3, .int x4, .int x5] w) (fun v w9 => mX (d + 1) 69 23 [mJ, mJ, mJ, mJ, mJ, mJ] (v.toList ++ []) w9) := by
  refine Eq.trans (X_st f_69_15 rfl rfl) ?_
  refine Eq.trans (X_st f_69_16 rfl rfl) ?_
  refine Eq.trans (X_st f_69_18 rfl rfl) ?_
  refine Eq.trans (X_call f_69_20 (by decide) rfl rfl rfl rfl rfl rfl (Nat.le_of_ble_eq_true rfl) (Nat.le_of_ble_eq_true rfl) rfl (Nat.le_of_ble_eq_true rfl)) ?_
  exact mThen_eq fun v w9 => mX_mask rfl
theorem b_69_23 {d : Nat} {w : MW} : mX d 69 23 [mJ, mJ, mJ, mJ, mJ, mJ] [] w = some (.inl (some (.int (nI 0))), w) := by
  refine Eq.trans (X_iconst f_69_23 kc_i_0) ?_
  exact X_ireturn f_69_24 rfl
/-! BeeTurnpike$Teller addName (II[I[III)I -/
theorem f_70_0 : mFetch 70 0 = some (.aload 4, 2, []) := by decide +kernel
theorem f_70_2 : mFetch 70 2 = some (.iload 5, 2, []) := by decide +kernel
theorem f_70_4 : mFetch 70 4 = some (.invokestatic 48, 3, [123, 2, 1, 0, 67, 559]) := by decide +kernel
theorem f_70_7 : mFetch 70 7 = some (.istore 7, 2, []) := by decide +kernel
theorem f_70_9 : mFetch 70 9 = some (.aload_n 0, 1, []) := by decide +kernel
theorem f_70_10 : mFetch 70 10 = some (.iload_n 1, 1, []) := by decide +kernel
theorem f_70_11 : mFetch 70 11 = some (.iload_n 2, 1, []) := by decide +kernel
theorem f_70_12 : mFetch 70 12 = some (.invokevirtual 73, 3, [66, 3, 2, 6, 1263, 1265, 56]) := by decide +kernel
theorem f_70_15 : mFetch 70 15 = some (.istore 8, 2, []) := by decide +kernel
theorem f_70_17 : mFetch 70 17 = some (.iload 8, 2, []) := by decide +kernel
theorem f_70_19 : mFetch 70 19 = some (.ifCond .ge 5, 3, [24]) := by decide +kernel
theorem f_70_22 : mFetch 70 22 = some (.iconst 3, 1, []) := by decide +kernel
theorem f_70_23 : mFetch 70 23 = some (.ireturn, 1, [0]) := by decide +kernel
theorem f_70_24 : mFetch 70 24 = some (.iload 7, 2, []) := by decide +kernel
theorem f_70_26 : mFetch 70 26 = some (.iload 6, 2, []) := by decide +kernel
theorem f_70_28 : mFetch 70 28 = some (.if_icmp .lt 5, 3, [33]) := by decide +kernel
theorem f_70_31 : mFetch 70 31 = some (.iconst 4, 1, []) := by decide +kernel
theorem f_70_32 : mFetch 70 32 = some (.ireturn, 1, [0]) := by decide +kernel
theorem f_70_33 : mFetch 70 33 = some (.aload_n 3, 1, []) := by decide +kernel
theorem f_70_34 : mFetch 70 34 = some (.iload 5, 2, []) := by decide +kernel
theorem f_70_36 : mFetch 70 36 = some (.iload 6, 2, []) := by decide +kernel
theorem f_70_38 : mFetch 70 38 = some (.imul, 1, []) := by decide +kernel
theorem f_70_39 : mFetch 70 39 = some (.iload 7, 2, []) := by decide +kernel
theorem f_70_41 : mFetch 70 41 = some (.iadd, 1, []) := by decide +kernel
theorem f_70_42 : mFetch 70 42 = some (.iload 8, 2, []) := by decide +kernel
theorem f_70_44 : mFetch 70 44 = some (.invokestatic 133, 3, [124, 3, 1, 0, 83, 689]) := by decide +kernel
theorem f_70_47 : mFetch 70 47 = some (.aload 4, 2, []) := by decide +kernel
theorem f_70_49 : mFetch 70 49 = some (.iload 5, 2, []) := by decide +kernel
theorem f_70_51 : mFetch 70 51 = some (.iload 7, 2, []) := by decide +kernel
theorem f_70_53 : mFetch 70 53 = some (.iconst 1, 1, []) := by decide +kernel
theorem f_70_54 : mFetch 70 54 = some (.iadd, 1, []) := by decide +kernel
theorem f_70_55 : mFetch 70 55 = some (.invokestatic 133, 3, [124, 3, 1, 0, 83, 689]) := by decide +kernel
theorem f_70_58 : mFetch 70 58 = some (.iconst 0, 1, []) := by decide +kernel
theorem f_70_59 : mFetch 70 59 = some (.ireturn, 1, [0]) := by decide +kernel
theorem b_70_0 {d : Nat} {a0 : Nat} {x1 : Int32} {x2 : Int32} {a3 : Nat} {a4 : Nat} {x5 : Int32} {x6 : Int32} {w : MW} : mX (d + 1) 70 0 [.ref a0, .int x1, .int x2, .ref a3, .ref a4, .int x5, .int x6, mJ, mJ] [] w = mThen (mK d 123 [.ref a4, .int x5] w) (fun v w9 => mX (d + 1) 70 7 [.ref a0, .int x1, .int x2, .ref a3, .ref a4, .int x5, .int x6, mJ, mJ] (v.toList ++ []) w9) := by
  refine Eq.trans (X_st f_70_0 rfl rfl) ?_
  refine Eq.trans (X_st f_70_2 rfl rfl) ?_
  refine Eq.trans (X_call f_70_4 (by decide) rfl rfl rfl rfl rfl rfl (Nat.le_of_ble_eq_true rfl) (Nat.le_of_ble_eq_true rfl) rfl (Nat.le_of_ble_eq_true rfl)) ?_
  exact mThen_eq fun v w9 => mX_mask rfl
theorem e_70 {d : Nat} {a0 : Nat} {x1 : Int32} {x2 : Int32} {a3 : Nat} {a4 : Nat} {x5 : Int32} {x6 : Int32} {w : MW} : mK d 70 [.ref a0, .int x1, .int x2, .ref a3, .ref a4, .int x5, .int x6] w = mX d 70 0 [.ref a0, .int x1, .int x2, .ref a3, .ref a4, .int x5, .int x6, mJ, mJ] [] w := rfl
theorem b_70_7 {d : Nat} {a0 : Nat} {x1 : Int32} {x2 : Int32} {a3 : Nat} {a4 : Nat} {x5 : Int32} {x6 : Int32} {y0 : Int32} {w : MW} (h0 : mTg w a0 = 6) : mX (d + 1) 70 7 [.ref a0, .int x1, .int x2, .ref a3, .ref a4, .int x5, .int x6, mJ, mJ] [.int y0] w = mThen (mK d 66 [.ref a0, .int x1, .int x2] w) (fun v w9 => mX (d + 1) 70 15 [mJ, mJ, mJ, .ref a3, .ref a4, .int x5, .int x6, .int y0, mJ] (v.toList ++ []) w9) := by
  refine Eq.trans (X_istore (L' := [.ref a0, .int x1, .int x2, .ref a3, .ref a4, .int x5, .int x6, .int y0, mJ]) f_70_7 (Nat.le_of_ble_eq_true rfl) rfl) ?_
  refine Eq.trans (X_st f_70_9 rfl rfl) ?_
  refine Eq.trans (X_st f_70_10 rfl rfl) ?_
  refine Eq.trans (X_st f_70_11 rfl rfl) ?_
  refine Eq.trans (X_call f_70_12 (by decide) rfl rfl rfl rfl rfl rfl (Nat.le_of_ble_eq_true rfl) (Nat.le_of_ble_eq_true rfl) (decide_eq_true h0) (Nat.le_of_ble_eq_true rfl)) ?_
  exact mThen_eq fun v w9 => mX_mask rfl
theorem b_70_15 {d : Nat} {a3 : Nat} {a4 : Nat} {x5 : Int32} {x6 : Int32} {x7 : Int32} {y0 : Int32} {w : MW} : mX d 70 15 [mJ, mJ, mJ, .ref a3, .ref a4, .int x5, .int x6, .int x7, mJ] [.int y0] w = (if nI 0 ≤ y0 then mX d 70 24 [mJ, mJ, mJ, .ref a3, .ref a4, .int x5, .int x6, .int x7, .int y0] [] w else mX d 70 22 [mJ, mJ, mJ, mJ, mJ, mJ, mJ, mJ, mJ] [] w) := by
  refine Eq.trans (X_istore (L' := [mJ, mJ, mJ, .ref a3, .ref a4, .int x5, .int x6, .int x7, .int y0]) f_70_15 (Nat.le_of_ble_eq_true rfl) rfl) ?_
  refine Eq.trans (X_st f_70_17 rfl rfl) ?_
  refine Eq.trans (X_br f_70_19 rfl rfl) ?_
  exact mIte_eq (mX_mask rfl) (mX_mask rfl)
theorem b_70_22 {d : Nat} {w : MW} : mX d 70 22 [mJ, mJ, mJ, mJ, mJ, mJ, mJ, mJ, mJ] [] w = some (.inl (some (.int (nI 3))), w) := by
  refine Eq.trans (X_iconst f_70_22 kc_i_3) ?_
  exact X_ireturn f_70_23 rfl
theorem b_70_24 {d : Nat} {a3 : Nat} {a4 : Nat} {x5 : Int32} {x6 : Int32} {x7 : Int32} {x8 : Int32} {w : MW} : mX d 70 24 [mJ, mJ, mJ, .ref a3, .ref a4, .int x5, .int x6, .int x7, .int x8] [] w = (if x7 < x6 then mX d 70 33 [mJ, mJ, mJ, .ref a3, .ref a4, .int x5, .int x6, .int x7, .int x8] [] w else mX d 70 31 [mJ, mJ, mJ, mJ, mJ, mJ, mJ, mJ, mJ] [] w) := by
  refine Eq.trans (X_st f_70_24 rfl rfl) ?_
  refine Eq.trans (X_st f_70_26 rfl rfl) ?_
  refine Eq.trans (X_br f_70_28 rfl rfl) ?_
  exact mIte_eq (mX_mask rfl) (mX_mask rfl)
theorem b_70_31 {d : Nat} {w : MW} : mX d 70 31 [mJ, mJ, mJ, mJ, mJ, mJ, mJ, mJ, mJ] [] w = some (.inl (some (.int (nI 4))), w) := by
  refine Eq.trans (X_iconst f_70_31 kc_i_4) ?_
  exact X_ireturn f_70_32 rfl
theorem b_70_33 {d : Nat} {a3 : Nat} {a4 : Nat} {x5 : Int32} {x6 : Int32} {x7 : Int32} {x8 : Int32} {w : MW} : mX (d + 1) 70 33 [mJ, mJ, mJ, .ref a3, .ref a4, .int x5, .int x6, .int x7, .int x8] [] w = mThen (mK d 124 [.ref a3, .int ((x5 * x6) + x7), .int x8] w) (fun v w9 => mX (d + 1) 70 47 [mJ, mJ, mJ, mJ, .ref a4, .int x5, mJ, .int x7, mJ] (v.toList ++ []) w9) := by
  refine Eq.trans (X_st f_70_33 rfl rfl) ?_
  refine Eq.trans (X_st f_70_34 rfl rfl) ?_
  refine Eq.trans (X_st f_70_36 rfl rfl) ?_
  refine Eq.trans (X_st f_70_38 rfl rfl) ?_
  refine Eq.trans (X_st f_70_39 rfl rfl) ?_
  refine Eq.trans (X_st f_70_41 rfl rfl) ?_
  refine Eq.trans (X_st f_70_42 rfl rfl) ?_
  refine Eq.trans (X_call f_70_44 (by decide) rfl rfl rfl rfl rfl rfl (Nat.le_of_ble_eq_true rfl) (Nat.le_of_ble_eq_true rfl) rfl (Nat.le_of_ble_eq_true rfl)) ?_
  exact mThen_eq fun v w9 => mX_mask rfl
theorem b_70_47 {d : Nat} {a4 : Nat} {x5 : Int32} {x7 : Int32} {w : MW} : mX (d + 1) 70 47 [mJ, mJ, mJ, mJ, .ref a4, .int x5, mJ, .int x7, mJ] [] w = mThen (mK d 124 [.ref a4, .int x5, .int (x7 + (nI 1))] w) (fun v w9 => mX (d + 1) 70 58 [mJ, mJ, mJ, mJ, mJ, mJ, mJ, mJ, mJ] (v.toList ++ []) w9) := by
  refine Eq.trans (X_st f_70_47 rfl rfl) ?_
  refine Eq.trans (X_st f_70_49 rfl rfl) ?_
  refine Eq.trans (X_st f_70_51 rfl rfl) ?_
  refine Eq.trans (X_iconst f_70_53 kc_i_1) ?_
  refine Eq.trans (X_st f_70_54 rfl rfl) ?_
  refine Eq.trans (X_call f_70_55 (by decide) rfl rfl rfl rfl rfl rfl (Nat.le_of_ble_eq_true rfl) (Nat.le_of_ble_eq_true rfl) rfl (Nat.le_of_ble_eq_true rfl)) ?_
  exact mThen_eq fun v w9 => mX_mask rfl
theorem b_70_58 {d : Nat} {w : MW} : mX d 70 58 [mJ, mJ, mJ, mJ, mJ, mJ, mJ, mJ, mJ] [] w = some (.inl (some (.int (nI 0))), w) := by
  refine Eq.trans (X_iconst f_70_58 kc_i_0) ?_
  exact X_ireturn f_70_59 rfl
/-! BeeTurnpike$Teller number (III[II)I -/
theorem f_71_0 : mFetch 71 0 = some (.aload_n 0, 1, []) := by decide +kernel
theorem f_71_1 : mFetch 71 1 = some (.getfield 15, 3, [6, 0, 0, 292]) := by decide +kernel
theorem f_71_4 : mFetch 71 4 = some (.getfield 98, 3, [7, 5, 1, 74]) := by decide +kernel
theorem f_71_7 : mFetch 71 7 = some (.iload_n 1, 1, []) := by decide +kernel
theorem f_71_8 : mFetch 71 8 = some (.invokestatic 48, 3, [123, 2, 1, 0, 67, 559]) := by decide +kernel
theorem f_71_11 : mFetch 71 11 = some (.istore 6, 2, []) := by decide +kernel
theorem f_71_13 : mFetch 71 13 = some (.iload 6, 2, []) := by decide +kernel
theorem f_71_15 : mFetch 71 15 = some (.iload_n 2, 1, []) := by decide +kernel
theorem f_71_16 : mFetch 71 16 = some (.if_icmp .lt 9, 3, [25]) := by decide +kernel
theorem f_71_19 : mFetch 71 19 = some (.iload 6, 2, []) := by decide +kernel
theorem f_71_21 : mFetch 71 21 = some (.iload_n 3, 1, []) := by decide +kernel
theorem f_71_22 : mFetch 71 22 = some (.if_icmp .le 5, 3, [27]) := by decide +kernel
theorem f_71_25 : mFetch 71 25 = some (.iconst 5, 1, []) := by decide +kernel
theorem f_71_26 : mFetch 71 26 = some (.ireturn, 1, [0]) := by decide +kernel
theorem f_71_27 : mFetch 71 27 = some (.aload 4, 2, []) := by decide +kernel
theorem f_71_29 : mFetch 71 29 = some (.iload 5, 2, []) := by decide +kernel
theorem f_71_31 : mFetch 71 31 = some (.iload 6, 2, []) := by decide +kernel
theorem f_71_33 : mFetch 71 33 = some (.invokestatic 133, 3, [124, 3, 1, 0, 83, 689]) := by decide +kernel
theorem f_71_36 : mFetch 71 36 = some (.iconst 0, 1, []) := by decide +kernel
theorem f_71_37 : mFetch 71 37 = some (.ireturn, 1, [0]) := by decide +kernel
theorem b_71_0 {d : Nat} {a0 : Nat} {x1 : Int32} {x2 : Int32} {x3 : Int32} {a4 : Nat} {x5 : Int32} {w : MW} (h0 : mTg w a0 = 6) (h1 : mR w a0 0 = some (gR w a0 0)) (h2 : mTg w (gR w a0 0) = 7) (h3 : mR w (gR w a0 0) 5 = some (gR w (gR w a0 0) 5)) : mX (d + 1) 71 0 [.ref a0, .int x1, .int x2, .int x3, .ref a4, .int x5, mJ] [] w = mThen (mK d 123 [.ref (gR w (gR w a0 0) 5), .int x1] w) (fun v w9 => mX (d + 1) 71 11 [mJ, mJ, .int x2, .int x3, .ref a4, .int x5, mJ] (v.toList ++ []) w9) := by
  refine Eq.trans (X_st f_71_0 rfl rfl) ?_
  refine Eq.trans (X_getR f_71_1 h0 rfl h1) ?_
  refine Eq.trans (X_getR f_71_4 h2 rfl h3) ?_
  refine Eq.trans (X_st f_71_7 rfl rfl) ?_
  refine Eq.trans (X_call f_71_8 (by decide) rfl rfl rfl rfl rfl rfl (Nat.le_of_ble_eq_true rfl) (Nat.le_of_ble_eq_true rfl) rfl (Nat.le_of_ble_eq_true rfl)) ?_
  exact mThen_eq fun v w9 => mX_mask rfl
theorem e_71 {d : Nat} {a0 : Nat} {x1 : Int32} {x2 : Int32} {x3 : Int32} {a4 : Nat} {x5 : Int32} {w : MW} : mK d 71 [.ref a0, .int x1, .int x2, .int x3, .ref a4, .int x5] w = mX d 71 0 [.ref a0, .int x1, .int x2, .int x3, .ref a4, .int x5, mJ] [] w := rfl
theorem b_71_11 {d : Nat} {x2 : Int32} {x3 : Int32} {a4 : Nat} {x5 : Int32} {y0 : Int32} {w : MW} : mX d 71 11 [mJ, mJ, .int x2, .int x3, .ref a4, .int x5, mJ] [.int y0] w = (if y0 < x2 then mX d 71 25 [mJ, mJ, mJ, mJ, mJ, mJ, mJ] [] w else mX d 71 19 [mJ, mJ, mJ, .int x3, .ref a4, .int x5, .int y0] [] w) := by
  refine Eq.trans (X_istore (L' := [mJ, mJ, .int x2, .int x3, .ref a4, .int x5, .int y0]) f_71_11 (Nat.le_of_ble_eq_true rfl) rfl) ?_
  refine Eq.trans (X_st f_71_13 rfl rfl) ?_
  refine Eq.trans (X_st f_71_15 rfl rfl) ?_
  refine Eq.trans (X_br f_71_16 rfl rfl) ?_
  exact mIte_eq (mX_mask rfl) (mX_mask rfl)
theorem b_71_19 {d : Nat} {x3 : Int32} {a4 : Nat} {x5 : Int32} {x6 : Int32} {w : MW} : mX d 71 19 [mJ, mJ, mJ, .int x3, .ref a4, .int x5, .int x6] [] w = (if x6 ≤ x3 then mX d 71 27 [mJ, mJ, mJ, mJ, .ref a4, .int x5, .int x6] [] w else mX d 71 25 [mJ, mJ, mJ, mJ, mJ, mJ, mJ] [] w) := by
  refine Eq.trans (X_st f_71_19 rfl rfl) ?_
  refine Eq.trans (X_st f_71_21 rfl rfl) ?_
  refine Eq.trans (X_br f_71_22 rfl rfl) ?_
  exact mIte_eq (mX_mask rfl) (mX_mask rfl)
theorem b_71_25 {d : Nat} {w : MW} : mX d 71 25 [mJ, mJ, mJ, mJ, mJ, mJ, mJ] [] w = some (.inl (some (.int (nI 5))), w) := by
  refine Eq.trans (X_iconst f_71_25 kc_i_5) ?_
  exact X_ireturn f_71_26 rfl
theorem b_71_27 {d : Nat} {a4 : Nat} {x5 : Int32} {x6 : Int32} {w : MW} : mX (d + 1) 71 27 [mJ, mJ, mJ, mJ, .ref a4, .int x5, .int x6] [] w = mThen (mK d 124 [.ref a4, .int x5, .int x6] w) (fun v w9 => mX (d + 1) 71 36 [mJ, mJ, mJ, mJ, mJ, mJ, mJ] (v.toList ++ []) w9) := by
  refine Eq.trans (X_st f_71_27 rfl rfl) ?_
  refine Eq.trans (X_st f_71_29 rfl rfl) ?_
  refine Eq.trans (X_st f_71_31 rfl rfl) ?_
  refine Eq.trans (X_call f_71_33 (by decide) rfl rfl rfl rfl rfl rfl (Nat.le_of_ble_eq_true rfl) (Nat.le_of_ble_eq_true rfl) rfl (Nat.le_of_ble_eq_true rfl)) ?_
  exact mThen_eq fun v w9 => mX_mask rfl
theorem b_71_36 {d : Nat} {w : MW} : mX d 71 36 [mJ, mJ, mJ, mJ, mJ, mJ, mJ] [] w = some (.inl (some (.int (nI 0))), w) := by
  refine Eq.trans (X_iconst f_71_36 kc_i_0) ?_
  exact X_ireturn f_71_37 rfl
/-! BeeTurnpike$Tokens <init> (LBeeTurnpike$Tape;)V -/
theorem f_72_0 : mFetch 72 0 = some (.aload_n 0, 1, []) := by decide +kernel
theorem f_72_1 : mFetch 72 1 = some (.invokespecial 3, 3, [1002, 119]) := by decide +kernel
theorem f_72_4 : mFetch 72 4 = some (.aload_n 0, 1, []) := by decide +kernel
theorem f_72_5 : mFetch 72 5 = some (.sipush 401, 3, []) := by decide +kernel
theorem f_72_8 : mFetch 72 8 = some (.newarray .int, 2, [50]) := by decide +kernel
theorem f_72_10 : mFetch 72 10 = some (.putfield 9, 3, [7, 1, 0, 121]) := by decide +kernel
theorem f_72_13 : mFetch 72 13 = some (.aload_n 0, 1, []) := by decide +kernel
theorem f_72_14 : mFetch 72 14 = some (.sipush 401, 3, []) := by decide +kernel
theorem f_72_17 : mFetch 72 17 = some (.newarray .int, 2, [50]) := by decide +kernel
theorem f_72_19 : mFetch 72 19 = some (.putfield 15, 3, [7, 2, 0, 124]) := by decide +kernel
theorem f_72_22 : mFetch 72 22 = some (.aload_n 0, 1, []) := by decide +kernel
theorem f_72_23 : mFetch 72 23 = some (.sipush 401, 3, []) := by decide +kernel
theorem f_72_26 : mFetch 72 26 = some (.newarray .int, 2, [50]) := by decide +kernel
theorem f_72_28 : mFetch 72 28 = some (.putfield 18, 3, [7, 3, 0, 126]) := by decide +kernel
theorem f_72_31 : mFetch 72 31 = some (.aload_n 0, 1, []) := by decide +kernel
theorem f_72_32 : mFetch 72 32 = some (.sipush 401, 3, []) := by decide +kernel
theorem f_72_35 : mFetch 72 35 = some (.newarray .int, 2, [50]) := by decide +kernel
theorem f_72_37 : mFetch 72 37 = some (.putfield 21, 3, [7, 4, 0, 127]) := by decide +kernel
theorem f_72_40 : mFetch 72 40 = some (.aload_n 0, 1, []) := by decide +kernel
theorem f_72_41 : mFetch 72 41 = some (.sipush 401, 3, []) := by decide +kernel
theorem f_72_44 : mFetch 72 44 = some (.newarray .int, 2, [50]) := by decide +kernel
theorem f_72_46 : mFetch 72 46 = some (.putfield 24, 3, [7, 5, 0, 130]) := by decide +kernel
theorem f_72_49 : mFetch 72 49 = some (.aload_n 0, 1, []) := by decide +kernel
theorem f_72_50 : mFetch 72 50 = some (.aload_n 1, 1, []) := by decide +kernel
theorem f_72_51 : mFetch 72 51 = some (.putfield 27, 3, [7, 0, 0, 120]) := by decide +kernel
theorem f_72_54 : mFetch 72 54 = some (.return_, 1, []) := by decide +kernel
theorem b_72_0 {d : Nat} {a0 : Nat} {a1 : Nat} {w : MW} (h0 : mE ≤ a0) (h1 : mTg (wN w 50 401 401) a0 = 7) (h2 : mTg (wN (wR (wN w 50 401 401) a0 1 (some (mSz w))) 50 401 401) a0 = 7) : mX d 72 0 [.ref a0, .ref a1] [] w = mX d 72 22 [.ref a0, .ref a1] [] (wR (wN (wR (wN w 50 401 401) a0 1 (some (mSz w))) 50 401 401) a0 2 (some (mSz (wR (wN w 50 401 401) a0 1 (some (mSz w)))))) := by
  refine Eq.trans (X_st f_72_0 rfl rfl) ?_
  refine Eq.trans (X_st f_72_1 rfl (if_pos ⟨h0, Nat.le_of_ble_eq_true rfl⟩)) ?_
  refine Eq.trans (X_st f_72_4 rfl rfl) ?_
  refine Eq.trans (X_sipush f_72_5 kc_s_401) ?_
  refine Eq.trans (X_newa f_72_8 kn_401 kl_401 (Nat.le_of_ble_eq_true rfl)) ?_
  refine Eq.trans (X_putR f_72_10 h1 h0 rfl) ?_
  refine Eq.trans (X_st f_72_13 rfl rfl) ?_
  refine Eq.trans (X_sipush f_72_14 kc_s_401) ?_
  refine Eq.trans (X_newa f_72_17 kn_401 kl_401 (Nat.le_of_ble_eq_true rfl)) ?_
  refine Eq.trans (X_putR f_72_19 h2 h0 rfl) ?_
  exact mX_mask rfl
theorem e_72 {d : Nat} {a0 : Nat} {a1 : Nat} {w : MW} : mK d 72 [.ref a0, .ref a1] w = mX d 72 0 [.ref a0, .ref a1] [] w := rfl
theorem b_72_22 {d : Nat} {a0 : Nat} {a1 : Nat} {w : MW} (h0 : mTg (wN w 50 401 401) a0 = 7) (h1 : mE ≤ a0) (h2 : mTg (wN (wR (wN w 50 401 401) a0 3 (some (mSz w))) 50 401 401) a0 = 7) : mX d 72 22 [.ref a0, .ref a1] [] w = mX d 72 40 [.ref a0, .ref a1] [] (wR (wN (wR (wN w 50 401 401) a0 3 (some (mSz w))) 50 401 401) a0 4 (some (mSz (wR (wN w 50 401 401) a0 3 (some (mSz w)))))) := by
  refine Eq.trans (X_st f_72_22 rfl rfl) ?_
  refine Eq.trans (X_sipush f_72_23 kc_s_401) ?_
  refine Eq.trans (X_newa f_72_26 kn_401 kl_401 (Nat.le_of_ble_eq_true rfl)) ?_
  refine Eq.trans (X_putR f_72_28 h0 h1 rfl) ?_
  refine Eq.trans (X_st f_72_31 rfl rfl) ?_
  refine Eq.trans (X_sipush f_72_32 kc_s_401) ?_
  refine Eq.trans (X_newa f_72_35 kn_401 kl_401 (Nat.le_of_ble_eq_true rfl)) ?_
  refine Eq.trans (X_putR f_72_37 h2 h1 rfl) ?_
  exact mX_mask rfl
theorem b_72_40 {d : Nat} {a0 : Nat} {a1 : Nat} {w : MW} (h0 : mTg (wN w 50 401 401) a0 = 7) (h1 : mE ≤ a0) (h2 : mTg (wR (wN w 50 401 401) a0 5 (some (mSz w))) a0 = 7) : mX d 72 40 [.ref a0, .ref a1] [] w = some (.inl none, wR (wR (wN w 50 401 401) a0 5 (some (mSz w))) a0 0 (some a1)) := by
  refine Eq.trans (X_st f_72_40 rfl rfl) ?_
  refine Eq.trans (X_sipush f_72_41 kc_s_401) ?_
  refine Eq.trans (X_newa f_72_44 kn_401 kl_401 (Nat.le_of_ble_eq_true rfl)) ?_
  refine Eq.trans (X_putR f_72_46 h0 h1 rfl) ?_
  refine Eq.trans (X_st f_72_49 rfl rfl) ?_
  refine Eq.trans (X_st f_72_50 rfl rfl) ?_
  refine Eq.trans (X_putR f_72_51 h2 h1 rfl) ?_
  exact X_ret f_72_54 rfl rfl
/-! BeeTurnpike$Tokens split ()V -/
theorem f_73_0 : mFetch 73 0 = some (.iconst 0, 1, []) := by decide +kernel
theorem f_73_1 : mFetch 73 1 = some (.istore_n 1, 1, []) := by decide +kernel
theorem f_73_2 : mFetch 73 2 = some (.sipush 258, 3, []) := by decide +kernel
theorem f_73_5 : mFetch 73 5 = some (.istore_n 2, 1, []) := by decide +kernel
theorem f_73_6 : mFetch 73 6 = some (.aload_n 0, 1, []) := by decide +kernel
theorem f_73_7 : mFetch 73 7 = some (.iconst 0, 1, []) := by decide +kernel
theorem f_73_8 : mFetch 73 8 = some (.putfield 31, 3, [7, 6, 0, 134]) := by decide +kernel
theorem f_73_11 : mFetch 73 11 = some (.iconst 0, 1, []) := by decide +kernel
theorem f_73_12 : mFetch 73 12 = some (.istore_n 3, 1, []) := by decide +kernel
theorem f_73_13 : mFetch 73 13 = some (.iload_n 3, 1, []) := by decide +kernel
theorem f_73_14 : mFetch 73 14 = some (.sipush 400, 3, []) := by decide +kernel
theorem f_73_17 : mFetch 73 17 = some (.if_icmp .gt 137, 3, [154]) := by decide +kernel
theorem f_73_20 : mFetch 73 20 = some (.iload_n 2, 1, []) := by decide +kernel
theorem f_73_21 : mFetch 73 21 = some (.sipush 260, 3, []) := by decide +kernel
theorem f_73_24 : mFetch 73 24 = some (.if_icmp .eq 130, 3, [154]) := by decide +kernel
theorem f_73_27 : mFetch 73 27 = some (.iload_n 2, 1, []) := by decide +kernel
theorem f_73_28 : mFetch 73 28 = some (.sipush 261, 3, []) := by decide +kernel
theorem f_73_31 : mFetch 73 31 = some (.if_icmp .eq 123, 3, [154]) := by decide +kernel
theorem f_73_34 : mFetch 73 34 = some (.aload_n 0, 1, []) := by decide +kernel
theorem f_73_35 : mFetch 73 35 = some (.iload_n 1, 1, []) := by decide +kernel
theorem f_73_36 : mFetch 73 36 = some (.invokevirtual 35, 3, [74, 2, 2, 7, 1027, 1029, 31]) := by decide +kernel
theorem f_73_39 : mFetch 73 39 = some (.istore_n 1, 1, []) := by decide +kernel
theorem f_73_40 : mFetch 73 40 = some (.aload_n 0, 1, []) := by decide +kernel
theorem f_73_41 : mFetch 73 41 = some (.iload_n 1, 1, []) := by decide +kernel
theorem f_73_42 : mFetch 73 42 = some (.invokevirtual 39, 3, [75, 2, 2, 7, 1039, 1041, 32]) := by decide +kernel
theorem f_73_45 : mFetch 73 45 = some (.istore 4, 2, []) := by decide +kernel
theorem f_73_47 : mFetch 73 47 = some (.aload_n 0, 1, []) := by decide +kernel
theorem f_73_48 : mFetch 73 48 = some (.iload_n 1, 1, []) := by decide +kernel
theorem f_73_49 : mFetch 73 49 = some (.iload 4, 2, []) := by decide +kernel
theorem f_73_51 : mFetch 73 51 = some (.invokevirtual 42, 3, [78, 3, 2, 7, 1060, 1062, 35]) := by decide +kernel
theorem f_73_54 : mFetch 73 54 = some (.istore_n 2, 1, []) := by decide +kernel
theorem f_73_55 : mFetch 73 55 = some (.iload_n 3, 1, []) := by decide +kernel
theorem f_73_56 : mFetch 73 56 = some (.sipush 400, 3, []) := by decide +kernel
theorem f_73_59 : mFetch 73 59 = some (.if_icmp .ne 14, 3, [73]) := by decide +kernel
theorem f_73_62 : mFetch 73 62 = some (.iload_n 2, 1, []) := by decide +kernel
theorem f_73_63 : mFetch 73 63 = some (.sipush 260, 3, []) := by decide +kernel
theorem f_73_66 : mFetch 73 66 = some (.if_icmp .eq 7, 3, [73]) := by decide +kernel
theorem f_73_69 : mFetch 73 69 = some (.sipush 261, 3, []) := by decide +kernel
theorem f_73_72 : mFetch 73 72 = some (.istore_n 2, 1, []) := by decide +kernel
theorem f_73_73 : mFetch 73 73 = some (.aload_n 0, 1, []) := by decide +kernel
theorem f_73_74 : mFetch 73 74 = some (.getfield 9, 3, [7, 1, 0, 121]) := by decide +kernel
theorem f_73_77 : mFetch 73 77 = some (.iload_n 3, 1, []) := by decide +kernel
theorem f_73_78 : mFetch 73 78 = some (.iload_n 2, 1, []) := by decide +kernel
theorem f_73_79 : mFetch 73 79 = some (.invokestatic 46, 3, [124, 3, 1, 0, 87, 689]) := by decide +kernel
theorem f_73_82 : mFetch 73 82 = some (.aload_n 0, 1, []) := by decide +kernel
theorem f_73_83 : mFetch 73 83 = some (.getfield 15, 3, [7, 2, 0, 124]) := by decide +kernel
theorem f_73_86 : mFetch 73 86 = some (.iload_n 3, 1, []) := by decide +kernel
theorem f_73_87 : mFetch 73 87 = some (.iload_n 1, 1, []) := by decide +kernel
theorem f_73_88 : mFetch 73 88 = some (.invokestatic 46, 3, [124, 3, 1, 0, 87, 689]) := by decide +kernel
theorem f_73_91 : mFetch 73 91 = some (.aload_n 0, 1, []) := by decide +kernel
theorem f_73_92 : mFetch 73 92 = some (.getfield 18, 3, [7, 3, 0, 126]) := by decide +kernel
theorem f_73_95 : mFetch 73 95 = some (.iload_n 3, 1, []) := by decide +kernel
theorem f_73_96 : mFetch 73 96 = some (.iload 4, 2, []) := by decide +kernel
theorem f_73_98 : mFetch 73 98 = some (.invokestatic 46, 3, [124, 3, 1, 0, 87, 689]) := by decide +kernel
theorem f_73_101 : mFetch 73 101 = some (.aload_n 0, 1, []) := by decide +kernel
theorem f_73_102 : mFetch 73 102 = some (.getfield 21, 3, [7, 4, 0, 127]) := by decide +kernel
theorem f_73_105 : mFetch 73 105 = some (.iload_n 3, 1, []) := by decide +kernel
theorem f_73_106 : mFetch 73 106 = some (.iconst 0, 1, []) := by decide +kernel
theorem f_73_107 : mFetch 73 107 = some (.invokestatic 46, 3, [124, 3, 1, 0, 87, 689]) := by decide +kernel
theorem f_73_110 : mFetch 73 110 = some (.aload_n 0, 1, []) := by decide +kernel
theorem f_73_111 : mFetch 73 111 = some (.getfield 24, 3, [7, 5, 0, 130]) := by decide +kernel
theorem f_73_114 : mFetch 73 114 = some (.iload_n 3, 1, []) := by decide +kernel
theorem f_73_115 : mFetch 73 115 = some (.iload_n 2, 1, []) := by decide +kernel
theorem f_73_116 : mFetch 73 116 = some (.sipush 259, 3, []) := by decide +kernel
theorem f_73_119 : mFetch 73 119 = some (.if_icmp .ne 13, 3, [132]) := by decide +kernel
theorem f_73_122 : mFetch 73 122 = some (.aload_n 0, 1, []) := by decide +kernel
theorem f_73_123 : mFetch 73 123 = some (.iload_n 1, 1, []) := by decide +kernel
theorem f_73_124 : mFetch 73 124 = some (.iload 4, 2, []) := by decide +kernel
theorem f_73_126 : mFetch 73 126 = some (.invokevirtual 50, 3, [82, 3, 2, 7, 1166, 1168, 38]) := by decide +kernel
theorem f_73_129 : mFetch 73 129 = some (.goto 4, 3, [133]) := by decide +kernel
theorem f_73_132 : mFetch 73 132 = some (.iconst 0, 1, []) := by decide +kernel
theorem f_73_133 : mFetch 73 133 = some (.invokestatic 46, 3, [124, 3, 1, 0, 87, 689]) := by decide +kernel
theorem f_73_136 : mFetch 73 136 = some (.iload_n 1, 1, []) := by decide +kernel
theorem f_73_137 : mFetch 73 137 = some (.iload 4, 2, []) := by decide +kernel
theorem f_73_139 : mFetch 73 139 = some (.iadd, 1, []) := by decide +kernel
theorem f_73_140 : mFetch 73 140 = some (.istore_n 1, 1, []) := by decide +kernel
theorem f_73_141 : mFetch 73 141 = some (.aload_n 0, 1, []) := by decide +kernel
theorem f_73_142 : mFetch 73 142 = some (.iload_n 3, 1, []) := by decide +kernel
theorem f_73_143 : mFetch 73 143 = some (.iconst 1, 1, []) := by decide +kernel
theorem f_73_144 : mFetch 73 144 = some (.iadd, 1, []) := by decide +kernel
theorem f_73_145 : mFetch 73 145 = some (.putfield 31, 3, [7, 6, 0, 134]) := by decide +kernel
theorem f_73_148 : mFetch 73 148 = some (.iinc 3 1, 3, []) := by decide +kernel
theorem f_73_151 : mFetch 73 151 = some (.goto (-138), 3, [13]) := by decide +kernel
theorem f_73_154 : mFetch 73 154 = some (.return_, 1, []) := by decide +kernel
theorem b_73_0 {d : Nat} {a0 : Nat} {w : MW} (h0 : mTg w a0 = 7) (h1 : mE ≤ a0) : mX d 73 0 [.ref a0, mJ, mJ, mJ, mJ] [] w = mX d 73 13 [.ref a0, .int (nI 0), .int (nI 258), .int (nI 0), mJ] [] (wI w a0 6 (nI 0)) := by
  refine Eq.trans (X_iconst f_73_0 kc_i_0) ?_
  refine Eq.trans (X_istore_n (L' := [.ref a0, .int (nI 0), mJ, mJ, mJ]) f_73_1 (Nat.le_of_ble_eq_true rfl) rfl) ?_
  refine Eq.trans (X_sipush f_73_2 kc_s_258) ?_
  refine Eq.trans (X_istore_n (L' := [.ref a0, .int (nI 0), .int (nI 258), mJ, mJ]) f_73_5 (Nat.le_of_ble_eq_true rfl) rfl) ?_
  refine Eq.trans (X_st f_73_6 rfl rfl) ?_
  refine Eq.trans (X_iconst f_73_7 kc_i_0) ?_
  refine Eq.trans (X_putI f_73_8 h0 h1 rfl rfl) ?_
  refine Eq.trans (X_iconst f_73_11 kc_i_0) ?_
  refine Eq.trans (X_istore_n (L' := [.ref a0, .int (nI 0), .int (nI 258), .int (nI 0), mJ]) f_73_12 (Nat.le_of_ble_eq_true rfl) rfl) ?_
  exact mX_mask rfl
theorem e_73 {d : Nat} {a0 : Nat} {w : MW} : mK d 73 [.ref a0] w = mX d 73 0 [.ref a0, mJ, mJ, mJ, mJ] [] w := rfl
theorem b_73_13 {d : Nat} {a0 : Nat} {x1 : Int32} {x2 : Int32} {x3 : Int32} {w : MW} : mX d 73 13 [.ref a0, .int x1, .int x2, .int x3, mJ] [] w = (if (nI 400) < x3 then mX d 73 154 [mJ, mJ, mJ, mJ, mJ] [] w else mX d 73 20 [.ref a0, .int x1, .int x2, .int x3, mJ] [] w) := by
  refine Eq.trans (X_st f_73_13 rfl rfl) ?_
  refine Eq.trans (X_sipush f_73_14 kc_s_400) ?_
  refine Eq.trans (X_br f_73_17 rfl rfl) ?_
  exact mIte_eq (mX_mask rfl) (mX_mask rfl)
theorem b_73_20 {d : Nat} {a0 : Nat} {x1 : Int32} {x2 : Int32} {x3 : Int32} {w : MW} : mX d 73 20 [.ref a0, .int x1, .int x2, .int x3, mJ] [] w = (if x2 = (nI 260) then mX d 73 154 [mJ, mJ, mJ, mJ, mJ] [] w else mX d 73 27 [.ref a0, .int x1, .int x2, .int x3, mJ] [] w) := by
  refine Eq.trans (X_st f_73_20 rfl rfl) ?_
  refine Eq.trans (X_sipush f_73_21 kc_s_260) ?_
  refine Eq.trans (X_br f_73_24 rfl rfl) ?_
  exact mIte_eq (mX_mask rfl) (mX_mask rfl)
theorem b_73_27 {d : Nat} {a0 : Nat} {x1 : Int32} {x2 : Int32} {x3 : Int32} {w : MW} : mX d 73 27 [.ref a0, .int x1, .int x2, .int x3, mJ] [] w = (if x2 = (nI 261) then mX d 73 154 [mJ, mJ, mJ, mJ, mJ] [] w else mX d 73 34 [.ref a0, .int x1, mJ, .int x3, mJ] [] w) := by
  refine Eq.trans (X_st f_73_27 rfl rfl) ?_
  refine Eq.trans (X_sipush f_73_28 kc_s_261) ?_
  refine Eq.trans (X_br f_73_31 rfl rfl) ?_
  exact mIte_eq (mX_mask rfl) (mX_mask rfl)
theorem b_73_34 {d : Nat} {a0 : Nat} {x1 : Int32} {x3 : Int32} {w : MW} (h0 : mTg w a0 = 7) : mX (d + 1) 73 34 [.ref a0, .int x1, mJ, .int x3, mJ] [] w = mThen (mK d 74 [.ref a0, .int x1] w) (fun v w9 => mX (d + 1) 73 39 [.ref a0, mJ, mJ, .int x3, mJ] (v.toList ++ []) w9) := by
  refine Eq.trans (X_st f_73_34 rfl rfl) ?_
  refine Eq.trans (X_st f_73_35 rfl rfl) ?_
  refine Eq.trans (X_call f_73_36 (by decide) rfl rfl rfl rfl rfl rfl (Nat.le_of_ble_eq_true rfl) (Nat.le_of_ble_eq_true rfl) (decide_eq_true h0) (Nat.le_of_ble_eq_true rfl)) ?_
  exact mThen_eq fun v w9 => mX_mask rfl
theorem b_73_39 {d : Nat} {a0 : Nat} {x3 : Int32} {y0 : Int32} {w : MW} (h0 : mTg w a0 = 7) : mX (d + 1) 73 39 [.ref a0, mJ, mJ, .int x3, mJ] [.int y0] w = mThen (mK d 75 [.ref a0, .int y0] w) (fun v w9 => mX (d + 1) 73 45 [.ref a0, .int y0, mJ, .int x3, mJ] (v.toList ++ []) w9) := by
  refine Eq.trans (X_istore_n (L' := [.ref a0, .int y0, mJ, .int x3, mJ]) f_73_39 (Nat.le_of_ble_eq_true rfl) rfl) ?_
  refine Eq.trans (X_st f_73_40 rfl rfl) ?_
  refine Eq.trans (X_st f_73_41 rfl rfl) ?_
  refine Eq.trans (X_call f_73_42 (by decide) rfl rfl rfl rfl rfl rfl (Nat.le_of_ble_eq_true rfl) (Nat.le_of_ble_eq_true rfl) (decide_eq_true h0) (Nat.le_of_ble_eq_true rfl)) ?_
  exact mThen_eq fun v w9 => mX_mask rfl
theorem b_73_45 {d : Nat} {a0 : Nat} {x1 : Int32} {x3 : Int32} {y0 : Int32} {w : MW} (h0 : mTg w a0 = 7) : mX (d + 1) 73 45 [.ref a0, .int x1, mJ, .int x3, mJ] [.int y0] w = mThen (mK d 78 [.ref a0, .int x1, .int y0] w) (fun v w9 => mX (d + 1) 73 54 [.ref a0, .int x1, mJ, .int x3, .int y0] (v.toList ++ []) w9) := by
  refine Eq.trans (X_istore (L' := [.ref a0, .int x1, mJ, .int x3, .int y0]) f_73_45 (Nat.le_of_ble_eq_true rfl) rfl) ?_
  refine Eq.trans (X_st f_73_47 rfl rfl) ?_
  refine Eq.trans (X_st f_73_48 rfl rfl) ?_
  refine Eq.trans (X_st f_73_49 rfl rfl) ?_
  refine Eq.trans (X_call f_73_51 (by decide) rfl rfl rfl rfl rfl rfl (Nat.le_of_ble_eq_true rfl) (Nat.le_of_ble_eq_true rfl) (decide_eq_true h0) (Nat.le_of_ble_eq_true rfl)) ?_
  exact mThen_eq fun v w9 => mX_mask rfl
theorem b_73_54 {d : Nat} {a0 : Nat} {x1 : Int32} {x3 : Int32} {x4 : Int32} {y0 : Int32} {w : MW} : mX d 73 54 [.ref a0, .int x1, mJ, .int x3, .int x4] [.int y0] w = (if ¬ x3 = (nI 400) then mX d 73 73 [.ref a0, .int x1, .int y0, .int x3, .int x4] [] w else mX d 73 62 [.ref a0, .int x1, .int y0, .int x3, .int x4] [] w) := by
  refine Eq.trans (X_istore_n (L' := [.ref a0, .int x1, .int y0, .int x3, .int x4]) f_73_54 (Nat.le_of_ble_eq_true rfl) rfl) ?_
  refine Eq.trans (X_st f_73_55 rfl rfl) ?_
  refine Eq.trans (X_sipush f_73_56 kc_s_400) ?_
  refine Eq.trans (X_br f_73_59 rfl rfl) ?_
  exact mIte_eq (mX_mask rfl) (mX_mask rfl)
theorem b_73_62 {d : Nat} {a0 : Nat} {x1 : Int32} {x2 : Int32} {x3 : Int32} {x4 : Int32} {w : MW} : mX d 73 62 [.ref a0, .int x1, .int x2, .int x3, .int x4] [] w = (if x2 = (nI 260) then mX d 73 73 [.ref a0, .int x1, .int x2, .int x3, .int x4] [] w else mX d 73 69 [.ref a0, .int x1, mJ, .int x3, .int x4] [] w) := by
  refine Eq.trans (X_st f_73_62 rfl rfl) ?_
  refine Eq.trans (X_sipush f_73_63 kc_s_260) ?_
  refine Eq.trans (X_br f_73_66 rfl rfl) ?_
  exact mIte_eq (mX_mask rfl) (mX_mask rfl)
theorem b_73_69 {d : Nat} {a0 : Nat} {x1 : Int32} {x3 : Int32} {x4 : Int32} {w : MW} : mX d 73 69 [.ref a0, .int x1, mJ, .int x3, .int x4] [] w = mX d 73 73 [.ref a0, .int x1, .int (nI 261), .int x3, .int x4] [] w := by
  refine Eq.trans (X_sipush f_73_69 kc_s_261) ?_
  refine Eq.trans (X_istore_n (L' := [.ref a0, .int x1, .int (nI 261), .int x3, .int x4]) f_73_72 (Nat.le_of_ble_eq_true rfl) rfl) ?_
  exact mX_mask rfl
theorem b_73_73 {d : Nat} {a0 : Nat} {x1 : Int32} {x2 : Int32} {x3 : Int32} {x4 : Int32} {w : MW} (h0 : mTg w a0 = 7) (h1 : mR w a0 1 = some (gR w a0 1)) : mX (d + 1) 73 73 [.ref a0, .int x1, .int x2, .int x3, .int x4] [] w = mThen (mK d 124 [.ref (gR w a0 1), .int x3, .int x2] w) (fun v w9 => mX (d + 1) 73 82 [.ref a0, .int x1, .int x2, .int x3, .int x4] (v.toList ++ []) w9) := by
  refine Eq.trans (X_st f_73_73 rfl rfl) ?_
  refine Eq.trans (X_getR f_73_74 h0 rfl h1) ?_
  refine Eq.trans (X_st f_73_77 rfl rfl) ?_
  refine Eq.trans (X_st f_73_78 rfl rfl) ?_
  refine Eq.trans (X_call f_73_79 (by decide) rfl rfl rfl rfl rfl rfl (Nat.le_of_ble_eq_true rfl) (Nat.le_of_ble_eq_true rfl) rfl (Nat.le_of_ble_eq_true rfl)) ?_
  exact mThen_eq fun v w9 => mX_mask rfl
theorem b_73_82 {d : Nat} {a0 : Nat} {x1 : Int32} {x2 : Int32} {x3 : Int32} {x4 : Int32} {w : MW} (h0 : mTg w a0 = 7) (h1 : mR w a0 2 = some (gR w a0 2)) : mX (d + 1) 73 82 [.ref a0, .int x1, .int x2, .int x3, .int x4] [] w = mThen (mK d 124 [.ref (gR w a0 2), .int x3, .int x1] w) (fun v w9 => mX (d + 1) 73 91 [.ref a0, .int x1, .int x2, .int x3, .int x4] (v.toList ++ []) w9) := by
  refine Eq.trans (X_st f_73_82 rfl rfl) ?_
  refine Eq.trans (X_getR f_73_83 h0 rfl h1) ?_
  refine Eq.trans (X_st f_73_86 rfl rfl) ?_
  refine Eq.trans (X_st f_73_87 rfl rfl) ?_
  refine Eq.trans (X_call f_73_88 (by decide) rfl rfl rfl rfl rfl rfl (Nat.le_of_ble_eq_true rfl) (Nat.le_of_ble_eq_true rfl) rfl (Nat.le_of_ble_eq_true rfl)) ?_
  exact mThen_eq fun v w9 => mX_mask rfl
theorem b_73_91 {d : Nat} {a0 : Nat} {x1 : Int32} {x2 : Int32} {x3 : Int32} {x4 : Int32} {w : MW} (h0 : mTg w a0 = 7) (h1 : mR w a0 3 = some (gR w a0 3)) : mX (d + 1) 73 91 [.ref a0, .int x1, .int x2, .int x3, .int x4] [] w = mThen (mK d 124 [.ref (gR w a0 3), .int x3, .int x4] w) (fun v w9 => mX (d + 1) 73 101 [.ref a0, .int x1, .int x2, .int x3, .int x4] (v.toList ++ []) w9) := by
  refine Eq.trans (X_st f_73_91 rfl rfl) ?_
  refine Eq.trans (X_getR f_73_92 h0 rfl h1) ?_
  refine Eq.trans (X_st f_73_95 rfl rfl) ?_
  refine Eq.trans (X_st f_73_96 rfl rfl) ?_
  refine Eq.trans (X_call f_73_98 (by decide) rfl rfl rfl rfl rfl rfl (Nat.le_of_ble_eq_true rfl) (Nat.le_of_ble_eq_true rfl) rfl (Nat.le_of_ble_eq_true rfl)) ?_
  exact mThen_eq fun v w9 => mX_mask rfl
theorem b_73_101 {d : Nat} {a0 : Nat} {x1 : Int32} {x2 : Int32} {x3 : Int32} {x4 : Int32} {w : MW} (h0 : mTg w a0 = 7) (h1 : mR w a0 4 = some (gR w a0 4)) : mX (d + 1) 73 101 [.ref a0, .int x1, .int x2, .int x3, .int x4] [] w = mThen (mK d 124 [.ref (gR w a0 4), .int x3, .int (nI 0)] w) (fun v w9 => mX (d + 1) 73 110 [.ref a0, .int x1, .int x2, .int x3, .int x4] (v.toList ++ []) w9) := by
  refine Eq.trans (X_st f_73_101 rfl rfl) ?_
  refine Eq.trans (X_getR f_73_102 h0 rfl h1) ?_
  refine Eq.trans (X_st f_73_105 rfl rfl) ?_
  refine Eq.trans (X_iconst f_73_106 kc_i_0) ?_
  refine Eq.trans (X_call f_73_107 (by decide) rfl rfl rfl rfl rfl rfl (Nat.le_of_ble_eq_true rfl) (Nat.le_of_ble_eq_true rfl) rfl (Nat.le_of_ble_eq_true rfl)) ?_
  exact mThen_eq fun v w9 => mX_mask rfl
theorem b_73_110 {d : Nat} {a0 : Nat} {x1 : Int32} {x2 : Int32} {x3 : Int32} {x4 : Int32} {w : MW} (h0 : mTg w a0 = 7) (h1 : mR w a0 5 = some (gR w a0 5)) : mX d 73 110 [.ref a0, .int x1, .int x2, .int x3, .int x4] [] w = (if ¬ x2 = (nI 259) then mX d 73 132 [.ref a0, .int x1, .int x2, .int x3, .int x4] [.int x3, .ref (gR w a0 5)] w else mX d 73 122 [.ref a0, .int x1, .int x2, .int x3, .int x4] [.int x3, .ref (gR w a0 5)] w) := by
  refine Eq.trans (X_st f_73_110 rfl rfl) ?_
  refine Eq.trans (X_getR f_73_111 h0 rfl h1) ?_
  refine Eq.trans (X_st f_73_114 rfl rfl) ?_
  refine Eq.trans (X_st f_73_115 rfl rfl) ?_
  refine Eq.trans (X_sipush f_73_116 kc_s_259) ?_
  refine Eq.trans (X_br f_73_119 rfl rfl) ?_
  exact mIte_eq (mX_mask rfl) (mX_mask rfl)
theorem b_73_122 {d : Nat} {a0 : Nat} {x1 : Int32} {x2 : Int32} {x3 : Int32} {x4 : Int32} {y0 : Int32} {b1 : Nat} {w : MW} (h0 : mTg w a0 = 7) : mX (d + 1) 73 122 [.ref a0, .int x1, .int x2, .int x3, .int x4] [.int y0, .ref b1] w = mThen (mK d 82 [.ref a0, .int x1, .int x4] w) (fun v w9 => mX (d + 1) 73 129 [.ref a0, .int x1, .int x2, .int x3, .int x4] (v.toList ++ [.int y0, .ref b1]) w9) := by
  refine Eq.trans (X_st f_73_122 rfl rfl) ?_
  refine Eq.trans (X_st f_73_123 rfl rfl) ?_
  refine Eq.trans (X_st f_73_124 rfl rfl) ?_
  refine Eq.trans (X_call f_73_126 (by decide) rfl rfl rfl rfl rfl rfl (Nat.le_of_ble_eq_true rfl) (Nat.le_of_ble_eq_true rfl) (decide_eq_true h0) (Nat.le_of_ble_eq_true rfl)) ?_
  exact mThen_eq fun v w9 => mX_mask rfl
theorem b_73_129 {d : Nat} {a0 : Nat} {x1 : Int32} {x2 : Int32} {x3 : Int32} {x4 : Int32} {y0 : Int32} {y1 : Int32} {b2 : Nat} {w : MW} : mX d 73 129 [.ref a0, .int x1, .int x2, .int x3, .int x4] [.int y0, .int y1, .ref b2] w = mX d 73 133 [.ref a0, .int x1, .int x2, .int x3, .int x4] [.int y0, .int y1, .ref b2] w := by
  refine Eq.trans (X_st f_73_129 rfl rfl) ?_
  exact mX_mask rfl
theorem b_73_132 {d : Nat} {a0 : Nat} {x1 : Int32} {x2 : Int32} {x3 : Int32} {x4 : Int32} {y0 : Int32} {b1 : Nat} {w : MW} : mX d 73 132 [.ref a0, .int x1, .int x2, .int x3, .int x4] [.int y0, .ref b1] w = mX d 73 133 [.ref a0, .int x1, .int x2, .int x3, .int x4] [.int (nI 0), .int y0, .ref b1] w := by
  refine Eq.trans (X_iconst f_73_132 kc_i_0) ?_
  exact mX_mask rfl
theorem b_73_133 {d : Nat} {a0 : Nat} {x1 : Int32} {x2 : Int32} {x3 : Int32} {x4 : Int32} {y0 : Int32} {y1 : Int32} {b2 : Nat} {w : MW} : mX (d + 1) 73 133 [.ref a0, .int x1, .int x2, .int x3, .int x4] [.int y0, .int y1, .ref b2] w = mThen (mK d 124 [.ref b2, .int y1, .int y0] w) (fun v w9 => mX (d + 1) 73 136 [.ref a0, .int x1, .int x2, .int x3, .int x4] (v.toList ++ []) w9) := by
  refine Eq.trans (X_call f_73_133 (by decide) rfl rfl rfl rfl rfl rfl (Nat.le_of_ble_eq_true rfl) (Nat.le_of_ble_eq_true rfl) rfl (Nat.le_of_ble_eq_true rfl)) ?_
  exact mThen_eq fun v w9 => mX_mask rfl
theorem b_73_136 {d : Nat} {a0 : Nat} {x1 : Int32} {x2 : Int32} {x3 : Int32} {x4 : Int32} {w : MW} (h0 : mTg w a0 = 7) (h1 : mE ≤ a0) : mX d 73 136 [.ref a0, .int x1, .int x2, .int x3, .int x4] [] w = mX d 73 13 [.ref a0, .int (x1 + x4), .int x2, .int (x3 + (nI 1)), mJ] [] (wI w a0 6 (x3 + (nI 1))) := by
  refine Eq.trans (X_st f_73_136 rfl rfl) ?_
  refine Eq.trans (X_st f_73_137 rfl rfl) ?_
  refine Eq.trans (X_st f_73_139 rfl rfl) ?_
  refine Eq.trans (X_istore_n (L' := [.ref a0, .int (x1 + x4), .int x2, .int x3, .int x4]) f_73_140 (Nat.le_of_ble_eq_true rfl) rfl) ?_
  refine Eq.trans (X_st f_73_141 rfl rfl) ?_
  refine Eq.trans (X_st f_73_142 rfl rfl) ?_
  refine Eq.trans (X_iconst f_73_143 kc_i_1) ?_
  refine Eq.trans (X_st f_73_144 rfl rfl) ?_
  refine Eq.trans (X_putI f_73_145 h0 h1 rfl rfl) ?_
  refine Eq.trans (X_iinc f_73_148 kc_i_1 rfl rfl) ?_
  refine Eq.trans (X_st f_73_151 rfl rfl) ?_
  exact mX_mask rfl
theorem b_73_154 {d : Nat} {w : MW} : mX d 73 154 [mJ, mJ, mJ, mJ, mJ] [] w = some (.inl none, w) := by
  exact X_ret f_73_154 rfl rfl
/-! BeeTurnpike$Tokens behindBlanks (I)I -/
theorem f_74_0 : mFetch 74 0 = some (.iload_n 1, 1, []) := by decide +kernel
theorem f_74_1 : mFetch 74 1 = some (.istore_n 2, 1, []) := by decide +kernel
theorem f_74_2 : mFetch 74 2 = some (.iconst 0, 1, []) := by decide +kernel
theorem f_74_3 : mFetch 74 3 = some (.istore_n 3, 1, []) := by decide +kernel
theorem f_74_4 : mFetch 74 4 = some (.iload_n 3, 1, []) := by decide +kernel
theorem f_74_5 : mFetch 74 5 = some (.sipush 2000, 3, []) := by decide +kernel
theorem f_74_8 : mFetch 74 8 = some (.if_icmp .ge 23, 3, [31]) := by decide +kernel
theorem f_74_11 : mFetch 74 11 = some (.aload_n 0, 1, []) := by decide +kernel
theorem f_74_12 : mFetch 74 12 = some (.getfield 27, 3, [7, 0, 0, 120]) := by decide +kernel
theorem f_74_15 : mFetch 74 15 = some (.iload_n 2, 1, []) := by decide +kernel
theorem f_74_16 : mFetch 74 16 = some (.invokevirtual 53, 3, [60, 2, 2, 5, 1031, 1032, 1033]) := by decide +kernel
theorem f_74_19 : mFetch 74 19 = some (.ifCond .eq 12, 3, [31]) := by decide +kernel
theorem f_74_22 : mFetch 74 22 = some (.iinc 2 1, 3, []) := by decide +kernel
theorem f_74_25 : mFetch 74 25 = some (.iinc 3 1, 3, []) := by decide +kernel
theorem f_74_28 : mFetch 74 28 = some (.goto (-24), 3, [4]) := by decide +kernel
theorem f_74_31 : mFetch 74 31 = some (.iload_n 2, 1, []) := by decide +kernel
theorem f_74_32 : mFetch 74 32 = some (.ireturn, 1, [0]) := by decide +kernel
theorem b_74_0 {d : Nat} {a0 : Nat} {x1 : Int32} {w : MW} : mX d 74 0 [.ref a0, .int x1, mJ, mJ] [] w = mX d 74 4 [.ref a0, mJ, .int x1, .int (nI 0)] [] w := by
  refine Eq.trans (X_st f_74_0 rfl rfl) ?_
  refine Eq.trans (X_istore_n (L' := [.ref a0, .int x1, .int x1, mJ]) f_74_1 (Nat.le_of_ble_eq_true rfl) rfl) ?_
  refine Eq.trans (X_iconst f_74_2 kc_i_0) ?_
  refine Eq.trans (X_istore_n (L' := [.ref a0, .int x1, .int x1, .int (nI 0)]) f_74_3 (Nat.le_of_ble_eq_true rfl) rfl) ?_
  exact mX_mask rfl
theorem e_74 {d : Nat} {a0 : Nat} {x1 : Int32} {w : MW} : mK d 74 [.ref a0, .int x1] w = mX d 74 0 [.ref a0, .int x1, mJ, mJ] [] w := rfl
theorem b_74_4 {d : Nat} {a0 : Nat} {x2 : Int32} {x3 : Int32} {w : MW} : mX d 74 4 [.ref a0, mJ, .int x2, .int x3] [] w = (if (nI 2000) ≤ x3 then mX d 74 31 [mJ, mJ, .int x2, mJ] [] w else mX d 74 11 [.ref a0, mJ, .int x2, .int x3] [] w) := by
  refine Eq.trans (X_st f_74_4 rfl rfl) ?_
  refine Eq.trans (X_sipush f_74_5 kc_s_2000) ?_
  refine Eq.trans (X_br f_74_8 rfl rfl) ?_
  exact mIte_eq (mX_mask rfl) (mX_mask rfl)
theorem b_74_11 {d : Nat} {a0 : Nat} {x2 : Int32} {x3 : Int32} {w : MW} (h0 : mTg w a0 = 7) (h1 : mR w a0 0 = some (gR w a0 0)) (h2 : mTg w (gR w a0 0) = 5) : mX (d + 1) 74 11 [.ref a0, mJ, .int x2, .int x3] [] w = mThen (mK d 60 [.ref (gR w a0 0), .int x2] w) (fun v w9 => mX (d + 1) 74 19 [.ref a0, mJ, .int x2, .int x3] (v.toList ++ []) w9) := by
  refine Eq.trans (X_st f_74_11 rfl rfl) ?_
  refine Eq.trans (X_getR f_74_12 h0 rfl h1) ?_
  refine Eq.trans (X_st f_74_15 rfl rfl) ?_
  refine Eq.trans (X_call f_74_16 (by decide) rfl rfl rfl rfl rfl rfl (Nat.le_of_ble_eq_true rfl) (Nat.le_of_ble_eq_true rfl) (decide_eq_true h2) (Nat.le_of_ble_eq_true rfl)) ?_
  exact mThen_eq fun v w9 => mX_mask rfl
theorem b_74_19 {d : Nat} {a0 : Nat} {x2 : Int32} {x3 : Int32} {y0 : Int32} {w : MW} : mX d 74 19 [.ref a0, mJ, .int x2, .int x3] [.int y0] w = (if y0 = nI 0 then mX d 74 31 [mJ, mJ, .int x2, mJ] [] w else mX d 74 22 [.ref a0, mJ, .int x2, .int x3] [] w) := by
  refine Eq.trans (X_br f_74_19 rfl rfl) ?_
  exact mIte_eq (mX_mask rfl) (mX_mask rfl)
theorem b_74_22 {d : Nat} {a0 : Nat} {x2 : Int32} {x3 : Int32} {w : MW} : mX d 74 22 [.ref a0, mJ, .int x2, .int x3] [] w = mX d 74 4 [.ref a0, mJ, .int (x2 + (nI 1)), .int (x3 + (nI 1))] [] w := by
  refine Eq.trans (X_iinc f_74_22 kc_i_1 rfl rfl) ?_
  refine Eq.trans (X_iinc f_74_25 kc_i_1 rfl rfl) ?_
  refine Eq.trans (X_st f_74_28 rfl rfl) ?_
  exact mX_mask rfl
theorem b_74_31 {d : Nat} {x2 : Int32} {w : MW} : mX d 74 31 [mJ, mJ, .int x2, mJ] [] w = some (.inl (some (.int x2)), w) := by
  refine Eq.trans (X_st f_74_31 rfl rfl) ?_
  exact X_ireturn f_74_32 rfl
/-! BeeTurnpike$Tokens lengthAt (I)I -/
theorem f_75_0 : mFetch 75 0 = some (.aload_n 0, 1, []) := by decide +kernel
theorem f_75_1 : mFetch 75 1 = some (.getfield 27, 3, [7, 0, 0, 120]) := by decide +kernel
theorem f_75_4 : mFetch 75 4 = some (.iload_n 1, 1, []) := by decide +kernel
theorem f_75_5 : mFetch 75 5 = some (.invokevirtual 59, 3, [58, 2, 2, 5, 1043, 1044, 1045]) := by decide +kernel
theorem f_75_8 : mFetch 75 8 = some (.istore_n 2, 1, []) := by decide +kernel
theorem f_75_9 : mFetch 75 9 = some (.iload_n 2, 1, []) := by decide +kernel
theorem f_75_10 : mFetch 75 10 = some (.ifCond .ne 28, 3, [38]) := by decide +kernel
theorem f_75_13 : mFetch 75 13 = some (.aload_n 0, 1, []) := by decide +kernel
theorem f_75_14 : mFetch 75 14 = some (.getfield 27, 3, [7, 0, 0, 120]) := by decide +kernel
theorem f_75_17 : mFetch 75 17 = some (.iload_n 1, 1, []) := by decide +kernel
theorem f_75_18 : mFetch 75 18 = some (.invokevirtual 62, 3, [59, 2, 2, 5, 1047, 1048, 1049]) := by decide +kernel
theorem f_75_21 : mFetch 75 21 = some (.ifCond .ne 17, 3, [38]) := by decide +kernel
theorem f_75_24 : mFetch 75 24 = some (.aload_n 0, 1, []) := by decide +kernel
theorem f_75_25 : mFetch 75 25 = some (.iload_n 1, 1, []) := by decide +kernel
theorem f_75_26 : mFetch 75 26 = some (.invokevirtual 65, 3, [77, 2, 2, 7, 1051, 1053, 33]) := by decide +kernel
theorem f_75_29 : mFetch 75 29 = some (.ifCond .eq 7, 3, [36]) := by decide +kernel
theorem f_75_32 : mFetch 75 32 = some (.iconst 2, 1, []) := by decide +kernel
theorem f_75_33 : mFetch 75 33 = some (.goto 4, 3, [37]) := by decide +kernel
theorem f_75_36 : mFetch 75 36 = some (.iconst 1, 1, []) := by decide +kernel
theorem f_75_37 : mFetch 75 37 = some (.ireturn, 1, [0]) := by decide +kernel
theorem f_75_38 : mFetch 75 38 = some (.iconst 1, 1, []) := by decide +kernel
theorem f_75_39 : mFetch 75 39 = some (.istore_n 3, 1, []) := by decide +kernel
theorem f_75_40 : mFetch 75 40 = some (.iconst 0, 1, []) := by decide +kernel
theorem f_75_41 : mFetch 75 41 = some (.istore 4, 2, []) := by decide +kernel
theorem f_75_43 : mFetch 75 43 = some (.iload 4, 2, []) := by decide +kernel
theorem f_75_45 : mFetch 75 45 = some (.sipush 2000, 3, []) := by decide +kernel
theorem f_75_48 : mFetch 75 48 = some (.if_icmp .ge 23, 3, [71]) := by decide +kernel
theorem f_75_51 : mFetch 75 51 = some (.aload_n 0, 1, []) := by decide +kernel
theorem f_75_52 : mFetch 75 52 = some (.iload_n 2, 1, []) := by decide +kernel
theorem f_75_53 : mFetch 75 53 = some (.iload_n 1, 1, []) := by decide +kernel
theorem f_75_54 : mFetch 75 54 = some (.iload_n 3, 1, []) := by decide +kernel
theorem f_75_55 : mFetch 75 55 = some (.iadd, 1, []) := by decide +kernel
theorem f_75_56 : mFetch 75 56 = some (.invokevirtual 68, 3, [76, 3, 2, 7, 1056, 1058, 34]) := by decide +kernel
theorem f_75_59 : mFetch 75 59 = some (.ifCond .eq 12, 3, [71]) := by decide +kernel
theorem f_75_62 : mFetch 75 62 = some (.iinc 3 1, 3, []) := by decide +kernel
theorem f_75_65 : mFetch 75 65 = some (.iinc 4 1, 3, []) := by decide +kernel
theorem f_75_68 : mFetch 75 68 = some (.goto (-25), 3, [43]) := by decide +kernel
theorem f_75_71 : mFetch 75 71 = some (.iload_n 3, 1, []) := by decide +kernel
theorem f_75_72 : mFetch 75 72 = some (.ireturn, 1, [0]) := by decide +kernel
theorem b_75_0 {d : Nat} {a0 : Nat} {x1 : Int32} {w : MW} (h0 : mTg w a0 = 7) (h1 : mR w a0 0 = some (gR w a0 0)) (h2 : mTg w (gR w a0 0) = 5) : mX (d + 1) 75 0 [.ref a0, .int x1, mJ, mJ, mJ] [] w = mThen (mK d 58 [.ref (gR w a0 0), .int x1] w) (fun v w9 => mX (d + 1) 75 8 [.ref a0, .int x1, mJ, mJ, mJ] (v.toList ++ []) w9) := by
  refine Eq.trans (X_st f_75_0 rfl rfl) ?_
  refine Eq.trans (X_getR f_75_1 h0 rfl h1) ?_
  refine Eq.trans (X_st f_75_4 rfl rfl) ?_
  refine Eq.trans (X_call f_75_5 (by decide) rfl rfl rfl rfl rfl rfl (Nat.le_of_ble_eq_true rfl) (Nat.le_of_ble_eq_true rfl) (decide_eq_true h2) (Nat.le_of_ble_eq_true rfl)) ?_
  exact mThen_eq fun v w9 => mX_mask rfl
theorem e_75 {d : Nat} {a0 : Nat} {x1 : Int32} {w : MW} : mK d 75 [.ref a0, .int x1] w = mX d 75 0 [.ref a0, .int x1, mJ, mJ, mJ] [] w := rfl
theorem b_75_8 {d : Nat} {a0 : Nat} {x1 : Int32} {y0 : Int32} {w : MW} : mX d 75 8 [.ref a0, .int x1, mJ, mJ, mJ] [.int y0] w = (if ¬ y0 = nI 0 then mX d 75 38 [.ref a0, .int x1, .int y0, mJ, mJ] [] w else mX d 75 13 [.ref a0, .int x1, .int y0, mJ, mJ] [] w) := by
  refine Eq.trans (X_istore_n (L' := [.ref a0, .int x1, .int y0, mJ, mJ]) f_75_8 (Nat.le_of_ble_eq_true rfl) rfl) ?_
  refine Eq.trans (X_st f_75_9 rfl rfl) ?_
  refine Eq.trans (X_br f_75_10 rfl rfl) ?_
  exact mIte_eq (mX_mask rfl) (mX_mask rfl)
theorem b_75_13 {d : Nat} {a0 : Nat} {x1 : Int32} {x2 : Int32} {w : MW} (h0 : mTg w a0 = 7) (h1 : mR w a0 0 = some (gR w a0 0)) (h2 : mTg w (gR w a0 0) = 5) : mX (d + 1) 75 13 [.ref a0, .int x1, .int x2, mJ, mJ] [] w = mThen (mK d 59 [.ref (gR w a0 0), .int x1] w) (fun v w9 => mX (d + 1) 75 21 [.ref a0, .int x1, .int x2, mJ, mJ] (v.toList ++ []) w9) := by
  refine Eq.trans (X_st f_75_13 rfl rfl) ?_
  refine Eq.trans (X_getR f_75_14 h0 rfl h1) ?_
  refine Eq.trans (X_st f_75_17 rfl rfl) ?_
  refine Eq.trans (X_call f_75_18 (by decide) rfl rfl rfl rfl rfl rfl (Nat.le_of_ble_eq_true rfl) (Nat.le_of_ble_eq_true rfl) (decide_eq_true h2) (Nat.le_of_ble_eq_true rfl)) ?_
  exact mThen_eq fun v w9 => mX_mask rfl
theorem b_75_21 {d : Nat} {a0 : Nat} {x1 : Int32} {x2 : Int32} {y0 : Int32} {w : MW} : mX d 75 21 [.ref a0, .int x1, .int x2, mJ, mJ] [.int y0] w = (if ¬ y0 = nI 0 then mX d 75 38 [.ref a0, .int x1, .int x2, mJ, mJ] [] w else mX d 75 24 [.ref a0, .int x1, mJ, mJ, mJ] [] w) := by
  refine Eq.trans (X_br f_75_21 rfl rfl) ?_
  exact mIte_eq (mX_mask rfl) (mX_mask rfl)
theorem b_75_24 {d : Nat} {a0 : Nat} {x1 : Int32} {w : MW} (h0 : mTg w a0 = 7) : mX (d + 1) 75 24 [.ref a0, .int x1, mJ, mJ, mJ] [] w = mThen (mK d 77 [.ref a0, .int x1] w) (fun v w9 => mX (d + 1) 75 29 [mJ, mJ, mJ, mJ, mJ] (v.toList ++ []) w9) := by
  refine Eq.trans (X_st f_75_24 rfl rfl) ?_
  refine Eq.trans (X_st f_75_25 rfl rfl) ?_
  refine Eq.trans (X_call f_75_26 (by decide) rfl rfl rfl rfl rfl rfl (Nat.le_of_ble_eq_true rfl) (Nat.le_of_ble_eq_true rfl) (decide_eq_true h0) (Nat.le_of_ble_eq_true rfl)) ?_
  exact mThen_eq fun v w9 => mX_mask rfl
theorem b_75_29 {d : Nat} {y0 : Int32} {w : MW} : mX d 75 29 [mJ, mJ, mJ, mJ, mJ] [.int y0] w = (if y0 = nI 0 then mX d 75 36 [mJ, mJ, mJ, mJ, mJ] [] w else mX d 75 32 [mJ, mJ, mJ, mJ, mJ] [] w) := by
  refine Eq.trans (X_br f_75_29 rfl rfl) ?_
  exact mIte_eq (mX_mask rfl) (mX_mask rfl)
theorem b_75_32 {d : Nat} {w : MW} : mX d 75 32 [mJ, mJ, mJ, mJ, mJ] [] w = mX d 75 37 [mJ, mJ, mJ, mJ, mJ] [.int (nI 2)] w := by
  refine Eq.trans (X_iconst f_75_32 kc_i_2) ?_
  refine Eq.trans (X_st f_75_33 rfl rfl) ?_
  exact mX_mask rfl
theorem b_75_36 {d : Nat} {w : MW} : mX d 75 36 [mJ, mJ, mJ, mJ, mJ] [] w = mX d 75 37 [mJ, mJ, mJ, mJ, mJ] [.int (nI 1)] w := by
  refine Eq.trans (X_iconst f_75_36 kc_i_1) ?_
  exact mX_mask rfl
theorem b_75_37 {d : Nat} {y0 : Int32} {w : MW} : mX d 75 37 [mJ, mJ, mJ, mJ, mJ] [.int y0] w = some (.inl (some (.int y0)), w) := by
  exact X_ireturn f_75_37 rfl
theorem b_75_38 {d : Nat} {a0 : Nat} {x1 : Int32} {x2 : Int32} {w : MW} : mX d 75 38 [.ref a0, .int x1, .int x2, mJ, mJ] [] w = mX d 75 43 [.ref a0, .int x1, .int x2, .int (nI 1), .int (nI 0)] [] w := by
  refine Eq.trans (X_iconst f_75_38 kc_i_1) ?_
  refine Eq.trans (X_istore_n (L' := [.ref a0, .int x1, .int x2, .int (nI 1), mJ]) f_75_39 (Nat.le_of_ble_eq_true rfl) rfl) ?_
  refine Eq.trans (X_iconst f_75_40 kc_i_0) ?_
  refine Eq.trans (X_istore (L' := [.ref a0, .int x1, .int x2, .int (nI 1), .int (nI 0)]) f_75_41 (Nat.le_of_ble_eq_true rfl) rfl) ?_
  exact mX_mask rfl
theorem b_75_43 {d : Nat} {a0 : Nat} {x1 : Int32} {x2 : Int32} {x3 : Int32} {x4 : Int32} {w : MW} : mX d 75 43 [.ref a0, .int x1, .int x2, .int x3, .int x4] [] w = (if (nI 2000) ≤ x4 then mX d 75 71 [mJ, mJ, mJ, .int x3, mJ] [] w else mX d 75 51 [.ref a0, .int x1, .int x2, .int x3, .int x4] [] w) := by
  refine Eq.trans (X_st f_75_43 rfl rfl) ?_
  refine Eq.trans (X_sipush f_75_45 kc_s_2000) ?_
  refine Eq.trans (X_br f_75_48 rfl rfl) ?_
  exact mIte_eq (mX_mask rfl) (mX_mask rfl)
theorem b_75_51 {d : Nat} {a0 : Nat} {x1 : Int32} {x2 : Int32} {x3 : Int32} {x4 : Int32} {w : MW} (h0 : mTg w a0 = 7) : mX (d + 1) 75 51 [.ref a0, .int x1, .int x2, .int x3, .int x4] [] w = mThen (mK d 76 [.ref a0, .int x2, .int (x1 + x3)] w) (fun v w9 => mX (d + 1) 75 59 [.ref a0, .int x1, .int x2, .int x3, .int x4] (v.toList ++ []) w9) := by
  refine Eq.trans (X_st f_75_51 rfl rfl) ?_
  refine Eq.trans (X_st f_75_52 rfl rfl) ?_
  refine Eq.trans (X_st f_75_53 rfl rfl) ?_
  refine Eq.trans (X_st f_75_54 rfl rfl) ?_
  refine Eq.trans (X_st f_75_55 rfl rfl) ?_
  refine Eq.trans (X_call f_75_56 (by decide) rfl rfl rfl rfl rfl rfl (Nat.le_of_ble_eq_true rfl) (Nat.le_of_ble_eq_true rfl) (decide_eq_true h0) (Nat.le_of_ble_eq_true rfl)) ?_
  exact mThen_eq fun v w9 => mX_mask rfl
theorem b_75_59 {d : Nat} {a0 : Nat} {x1 : Int32} {x2 : Int32} {x3 : Int32} {x4 : Int32} {y0 : Int32} {w : MW} : mX d 75 59 [.ref a0, .int x1, .int x2, .int x3, .int x4] [.int y0] w = (if y0 = nI 0 then mX d 75 71 [mJ, mJ, mJ, .int x3, mJ] [] w else mX d 75 62 [.ref a0, .int x1, .int x2, .int x3, .int x4] [] w) := by
  refine Eq.trans (X_br f_75_59 rfl rfl) ?_
  exact mIte_eq (mX_mask rfl) (mX_mask rfl)
theorem b_75_62 {d : Nat} {a0 : Nat} {x1 : Int32} {x2 : Int32} {x3 : Int32} {x4 : Int32} {w : MW} : mX d 75 62 [.ref a0, .int x1, .int x2, .int x3, .int x4] [] w = mX d 75 43 [.ref a0, .int x1, .int x2, .int (x3 + (nI 1)), .int (x4 + (nI 1))] [] w := by
  refine Eq.trans (X_iinc f_75_62 kc_i_1 rfl rfl) ?_
  refine Eq.trans (X_iinc f_75_65 kc_i_1 rfl rfl) ?_
  refine Eq.trans (X_st f_75_68 rfl rfl) ?_
  exact mX_mask rfl
theorem b_75_71 {d : Nat} {x3 : Int32} {w : MW} : mX d 75 71 [mJ, mJ, mJ, .int x3, mJ] [] w = some (.inl (some (.int x3)), w) := by
  refine Eq.trans (X_st f_75_71 rfl rfl) ?_
  exact X_ireturn f_75_72 rfl
/-! BeeTurnpike$Tokens goesOn (ZI)Z -/
theorem f_76_0 : mFetch 76 0 = some (.aload_n 0, 1, []) := by decide +kernel
theorem f_76_1 : mFetch 76 1 = some (.getfield 27, 3, [7, 0, 0, 120]) := by decide +kernel
theorem f_76_4 : mFetch 76 4 = some (.iload_n 2, 1, []) := by decide +kernel
theorem f_76_5 : mFetch 76 5 = some (.invokevirtual 62, 3, [59, 2, 2, 5, 1047, 1048, 1049]) := by decide +kernel
theorem f_76_8 : mFetch 76 8 = some (.ifCond .ne 18, 3, [26]) := by decide +kernel
theorem f_76_11 : mFetch 76 11 = some (.iload_n 1, 1, []) := by decide +kernel
theorem f_76_12 : mFetch 76 12 = some (.ifCond .eq 18, 3, [30]) := by decide +kernel
theorem f_76_15 : mFetch 76 15 = some (.aload_n 0, 1, []) := by decide +kernel
theorem f_76_16 : mFetch 76 16 = some (.getfield 27, 3, [7, 0, 0, 120]) := by decide +kernel
theorem f_76_19 : mFetch 76 19 = some (.iload_n 2, 1, []) := by decide +kernel
theorem f_76_20 : mFetch 76 20 = some (.invokevirtual 59, 3, [58, 2, 2, 5, 1043, 1044, 1045]) := by decide +kernel
theorem f_76_23 : mFetch 76 23 = some (.ifCond .eq 7, 3, [30]) := by decide +kernel
theorem f_76_26 : mFetch 76 26 = some (.iconst 1, 1, []) := by decide +kernel
theorem f_76_27 : mFetch 76 27 = some (.goto 4, 3, [31]) := by decide +kernel
theorem f_76_30 : mFetch 76 30 = some (.iconst 0, 1, []) := by decide +kernel
theorem f_76_31 : mFetch 76 31 = some (.ireturn, 1, [2]) := by decide +kernel
theorem b_76_0 {d : Nat} {a0 : Nat} {x1 : Int32} {x2 : Int32} {w : MW} (h0 : mTg w a0 = 7) (h1 : mR w a0 0 = some (gR w a0 0)) (h2 : mTg w (gR w a0 0) = 5) : mX (d + 1) 76 0 [.ref a0, .int x1, .int x2] [] w = mThen (mK d 59 [.ref (gR w a0 0), .int x2] w) (fun v w9 => mX (d + 1) 76 8 [.ref a0, .int x1, .int x2] (v.toList ++ []) w9) := by
  refine Eq.trans (X_st f_76_0 rfl rfl) ?_
  refine Eq.trans (X_getR f_76_1 h0 rfl h1) ?_
  refine Eq.trans (X_st f_76_4 rfl rfl) ?_
  refine Eq.trans (X_call f_76_5 (by decide) rfl rfl rfl rfl rfl rfl (Nat.le_of_ble_eq_true rfl) (Nat.le_of_ble_eq_true rfl) (decide_eq_true h2) (Nat.le_of_ble_eq_true rfl)) ?_
  exact mThen_eq fun v w9 => mX_mask rfl
theorem e_76 {d : Nat} {a0 : Nat} {x1 : Int32} {x2 : Int32} {w : MW} : mK d 76 [.ref a0, .int x1, .int x2] w = mX d 76 0 [.ref a0, .int x1, .int x2] [] w := rfl
theorem b_76_8 {d : Nat} {a0 : Nat} {x1 : Int32} {x2 : Int32} {y0 : Int32} {w : MW} : mX d 76 8 [.ref a0, .int x1, .int x2] [.int y0] w = (if ¬ y0 = nI 0 then mX d 76 26 [mJ, mJ, mJ] [] w else mX d 76 11 [.ref a0, .int x1, .int x2] [] w) := by
  refine Eq.trans (X_br f_76_8 rfl rfl) ?_
  exact mIte_eq (mX_mask rfl) (mX_mask rfl)
theorem b_76_11 {d : Nat} {a0 : Nat} {x1 : Int32} {x2 : Int32} {w : MW} : mX d 76 11 [.ref a0, .int x1, .int x2] [] w = (if x1 = nI 0 then mX d 76 30 [mJ, mJ, mJ] [] w else mX d 76 15 [.ref a0, mJ, .int x2] [] w) := by
  refine Eq.trans (X_st f_76_11 rfl rfl) ?_
  refine Eq.trans (X_br f_76_12 rfl rfl) ?_
  exact mIte_eq (mX_mask rfl) (mX_mask rfl)
theorem b_76_15 {d : Nat} {a0 : Nat} {x2 : Int32} {w : MW} (h0 : mTg w a0 = 7) (h1 : mR w a0 0 = some (gR w a0 0)) (h2 : mTg w (gR w a0 0) = 5) : mX (d + 1) 76 15 [.ref a0, mJ, .int x2] [] w = mThen (mK d 58 [.ref (gR w a0 0), .int x2] w) (fun v w9 => mX (d + 1) 76 23 [mJ, mJ, mJ] (v.toList ++ []) w9) := by
  refine Eq.trans (X_st f_76_15 rfl rfl) ?_
  refine Eq.trans (X_getR f_76_16 h0 rfl h1) ?_
  refine Eq.trans (X_st f_76_19 rfl rfl) ?_
  refine Eq.trans (X_call f_76_20 (by decide) rfl rfl rfl rfl rfl rfl (Nat.le_of_ble_eq_true rfl) (Nat.le_of_ble_eq_true rfl) (decide_eq_true h2) (Nat.le_of_ble_eq_true rfl)) ?_
  exact mThen_eq fun v w9 => mX_mask rfl
theorem b_76_23 {d : Nat} {y0 : Int32} {w : MW} : mX d 76 23 [mJ, mJ, mJ] [.int y0] w = (if y0 = nI 0 then mX d 76 30 [mJ, mJ, mJ] [] w else mX d 76 26 [mJ, mJ, mJ] [] w) := by
  refine Eq.trans (X_br f_76_23 rfl rfl) ?_
  exact mIte_eq (mX_mask rfl) (mX_mask rfl)
theorem b_76_26 {d : Nat} {w : MW} : mX d 76 26 [mJ, mJ, mJ] [] w = mX d 76 31 [mJ, mJ, mJ] [.int (nI 1)] w := by
  refine Eq.trans (X_iconst f_76_26 kc_i_1) ?_
  refine Eq.trans (X_st f_76_27 rfl rfl) ?_
  exact mX_mask rfl
theorem b_76_30 {d : Nat} {w : MW} : mX d 76 30 [mJ, mJ, mJ] [] w = mX d 76 31 [mJ, mJ, mJ] [.int (nI 0)] w := by
  refine Eq.trans (X_iconst f_76_30 kc_i_0) ?_
  exact mX_mask rfl
theorem b_76_31 {d : Nat} {y0 : Int32} {w : MW} (h0 : mRk 2 y0 = true) : mX d 76 31 [mJ, mJ, mJ] [.int y0] w = some (.inl (some (.int y0)), w) := by
  exact X_ireturn f_76_31 h0
/-! BeeTurnpike$Tokens isWideSymbol (I)Z -/
theorem f_77_0 : mFetch 77 0 = some (.aload_n 0, 1, []) := by decide +kernel
theorem f_77_1 : mFetch 77 1 = some (.getfield 27, 3, [7, 0, 0, 120]) := by decide +kernel
theorem f_77_4 : mFetch 77 4 = some (.iload_n 1, 1, []) := by decide +kernel
theorem f_77_5 : mFetch 77 5 = some (.invokevirtual 72, 3, [57, 2, 2, 5, 1055, 1036, 1037]) := by decide +kernel
theorem f_77_8 : mFetch 77 8 = some (.istore_n 2, 1, []) := by decide +kernel
theorem f_77_9 : mFetch 77 9 = some (.iload_n 2, 1, []) := by decide +kernel
theorem f_77_10 : mFetch 77 10 = some (.bipush 60, 2, []) := by decide +kernel
theorem f_77_12 : mFetch 77 12 = some (.if_icmp .eq 9, 3, [21]) := by decide +kernel
theorem f_77_15 : mFetch 77 15 = some (.iload_n 2, 1, []) := by decide +kernel
theorem f_77_16 : mFetch 77 16 = some (.bipush 62, 2, []) := by decide +kernel
theorem f_77_18 : mFetch 77 18 = some (.if_icmp .ne 22, 3, [40]) := by decide +kernel
theorem f_77_21 : mFetch 77 21 = some (.aload_n 0, 1, []) := by decide +kernel
theorem f_77_22 : mFetch 77 22 = some (.getfield 27, 3, [7, 0, 0, 120]) := by decide +kernel
theorem f_77_25 : mFetch 77 25 = some (.iload_n 1, 1, []) := by decide +kernel
theorem f_77_26 : mFetch 77 26 = some (.iconst 1, 1, []) := by decide +kernel
theorem f_77_27 : mFetch 77 27 = some (.iadd, 1, []) := by decide +kernel
theorem f_77_28 : mFetch 77 28 = some (.invokevirtual 72, 3, [57, 2, 2, 5, 1055, 1036, 1037]) := by decide +kernel
theorem f_77_31 : mFetch 77 31 = some (.bipush 61, 2, []) := by decide +kernel
theorem f_77_33 : mFetch 77 33 = some (.if_icmp .ne 7, 3, [40]) := by decide +kernel
theorem f_77_36 : mFetch 77 36 = some (.iconst 1, 1, []) := by decide +kernel
theorem f_77_37 : mFetch 77 37 = some (.goto 4, 3, [41]) := by decide +kernel
theorem f_77_40 : mFetch 77 40 = some (.iconst 0, 1, []) := by decide +kernel
theorem f_77_41 : mFetch 77 41 = some (.ireturn, 1, [2]) := by decide +kernel
theorem b_77_0 {d : Nat} {a0 : Nat} {x1 : Int32} {w : MW} (h0 : mTg w a0 = 7) (h1 : mR w a0 0 = some (gR w a0 0)) (h2 : mTg w (gR w a0 0) = 5) : mX (d + 1) 77 0 [.ref a0, .int x1, mJ] [] w = mThen (mK d 57 [.ref (gR w a0 0), .int x1] w) (fun v w9 => mX (d + 1) 77 8 [.ref a0, .int x1, mJ] (v.toList ++ []) w9) := by
  refine Eq.trans (X_st f_77_0 rfl rfl) ?_
  refine Eq.trans (X_getR f_77_1 h0 rfl h1) ?_
  refine Eq.trans (X_st f_77_4 rfl rfl) ?_
  refine Eq.trans (X_call f_77_5 (by decide) rfl rfl rfl rfl rfl rfl (Nat.le_of_ble_eq_true rfl) (Nat.le_of_ble_eq_true rfl) (decide_eq_true h2) (Nat.le_of_ble_eq_true rfl)) ?_
  exact mThen_eq fun v w9 => mX_mask rfl
theorem e_77 {d : Nat} {a0 : Nat} {x1 : Int32} {w : MW} : mK d 77 [.ref a0, .int x1] w = mX d 77 0 [.ref a0, .int x1, mJ] [] w := rfl
theorem b_77_8 {d : Nat} {a0 : Nat} {x1 : Int32} {y0 : Int32} {w : MW} : mX d 77 8 [.ref a0, .int x1, mJ] [.int y0] w = (if y0 = (nI 60) then mX d 77 21 [.ref a0, .int x1, mJ] [] w else mX d 77 15 [.ref a0, .int x1, .int y0] [] w) := by
  refine Eq.trans (X_istore_n (L' := [.ref a0, .int x1, .int y0]) f_77_8 (Nat.le_of_ble_eq_true rfl) rfl) ?_
  refine Eq.trans (X_st f_77_9 rfl rfl) ?_
  refine Eq.trans (X_bipush f_77_10 kc_b_60) ?_
  refine Eq.trans (X_br f_77_12 rfl rfl) ?_
  exact mIte_eq (mX_mask rfl) (mX_mask rfl)
theorem b_77_15 {d : Nat} {a0 : Nat} {x1 : Int32} {x2 : Int32} {w : MW} : mX d 77 15 [.ref a0, .int x1, .int x2] [] w = (if ¬ x2 = (nI 62) then mX d 77 40 [mJ, mJ, mJ] [] w else mX d 77 21 [.ref a0, .int x1, mJ] [] w) := by
  refine Eq.trans (X_st f_77_15 rfl rfl) ?_
  refine Eq.trans (X_bipush f_77_16 kc_b_62) ?_
  refine Eq.trans (X_br f_77_18 rfl rfl) ?_
  exact mIte_eq (mX_mask rfl) (mX_mask rfl)
theorem b_77_21 {d : Nat} {a0 : Nat} {x1 : Int32} {w : MW} (h0 : mTg w a0 = 7) (h1 : mR w a0 0 = some (gR w a0 0)) (h2 : mTg w (gR w a0 0) = 5) : mX (d + 1) 77 21 [.ref a0, .int x1, mJ] [] w = mThen (mK d 57 [.ref (gR w a0 0), .int (x1 + (nI 1))] w) (fun v w9 => mX (d + 1) 77 31 [mJ, mJ, mJ] (v.toList ++ []) w9) := by
  refine Eq.trans (X_st f_77_21 rfl rfl) ?_
  refine Eq.trans (X_getR f_77_22 h0 rfl h1) ?_
  refine Eq.trans (X_st f_77_25 rfl rfl) ?_
  refine Eq.trans (X_iconst f_77_26 kc_i_1) ?_
  refine Eq.trans (X_st f_77_27 rfl rfl) ?_
  refine Eq.trans (X_call f_77_28 (by decide) rfl rfl rfl rfl rfl rfl (Nat.le_of_ble_eq_true rfl) (Nat.le_of_ble_eq_true rfl) (decide_eq_true h2) (Nat.le_of_ble_eq_true rfl)) ?_
  exact mThen_eq fun v w9 => mX_mask rfl
theorem b_77_31 {d : Nat} {y0 : Int32} {w : MW} : mX d 77 31 [mJ, mJ, mJ] [.int y0] w = (if ¬ y0 = (nI 61) then mX d 77 40 [mJ, mJ, mJ] [] w else mX d 77 36 [mJ, mJ, mJ] [] w) := by
  refine Eq.trans (X_bipush f_77_31 kc_b_61) ?_
  refine Eq.trans (X_br f_77_33 rfl rfl) ?_
  exact mIte_eq (mX_mask rfl) (mX_mask rfl)
theorem b_77_36 {d : Nat} {w : MW} : mX d 77 36 [mJ, mJ, mJ] [] w = mX d 77 41 [mJ, mJ, mJ] [.int (nI 1)] w := by
  refine Eq.trans (X_iconst f_77_36 kc_i_1) ?_
  refine Eq.trans (X_st f_77_37 rfl rfl) ?_
  exact mX_mask rfl
theorem b_77_40 {d : Nat} {w : MW} : mX d 77 40 [mJ, mJ, mJ] [] w = mX d 77 41 [mJ, mJ, mJ] [.int (nI 0)] w := by
  refine Eq.trans (X_iconst f_77_40 kc_i_0) ?_
  exact mX_mask rfl
theorem b_77_41 {d : Nat} {y0 : Int32} {w : MW} (h0 : mRk 2 y0 = true) : mX d 77 41 [mJ, mJ, mJ] [.int y0] w = some (.inl (some (.int y0)), w) := by
  exact X_ireturn f_77_41 h0
/-! BeeTurnpike$Tokens kindAt (II)I -/
theorem f_78_0 : mFetch 78 0 = some (.aload_n 0, 1, []) := by decide +kernel
theorem f_78_1 : mFetch 78 1 = some (.getfield 27, 3, [7, 0, 0, 120]) := by decide +kernel
theorem f_78_4 : mFetch 78 4 = some (.iload_n 1, 1, []) := by decide +kernel
theorem f_78_5 : mFetch 78 5 = some (.invokevirtual 72, 3, [57, 2, 2, 5, 1055, 1036, 1037]) := by decide +kernel
theorem f_78_8 : mFetch 78 8 = some (.istore_n 3, 1, []) := by decide +kernel
theorem f_78_9 : mFetch 78 9 = some (.iload_n 3, 1, []) := by decide +kernel
theorem f_78_10 : mFetch 78 10 = some (.ifCond .ge 7, 3, [17]) := by decide +kernel
theorem f_78_13 : mFetch 78 13 = some (.sipush 260, 3, []) := by decide +kernel
theorem f_78_16 : mFetch 78 16 = some (.ireturn, 1, [0]) := by decide +kernel
theorem f_78_17 : mFetch 78 17 = some (.aload_n 0, 1, []) := by decide +kernel
theorem f_78_18 : mFetch 78 18 = some (.getfield 27, 3, [7, 0, 0, 120]) := by decide +kernel
theorem f_78_21 : mFetch 78 21 = some (.iload_n 1, 1, []) := by decide +kernel
theorem f_78_22 : mFetch 78 22 = some (.invokevirtual 59, 3, [58, 2, 2, 5, 1043, 1044, 1045]) := by decide +kernel
theorem f_78_25 : mFetch 78 25 = some (.ifCond .eq 22, 3, [47]) := by decide +kernel
theorem f_78_28 : mFetch 78 28 = some (.iload_n 2, 1, []) := by decide +kernel
theorem f_78_29 : mFetch 78 29 = some (.bipush 10, 2, []) := by decide +kernel
theorem f_78_31 : mFetch 78 31 = some (.if_icmp .le 9, 3, [40]) := by decide +kernel
theorem f_78_34 : mFetch 78 34 = some (.sipush 261, 3, []) := by decide +kernel
theorem f_78_37 : mFetch 78 37 = some (.goto 9, 3, [46]) := by decide +kernel
theorem f_78_40 : mFetch 78 40 = some (.aload_n 0, 1, []) := by decide +kernel
theorem f_78_41 : mFetch 78 41 = some (.iload_n 1, 1, []) := by decide +kernel
theorem f_78_42 : mFetch 78 42 = some (.iload_n 2, 1, []) := by decide +kernel
theorem f_78_43 : mFetch 78 43 = some (.invokevirtual 75, 3, [79, 3, 2, 7, 1064, 1066, 36]) := by decide +kernel
theorem f_78_46 : mFetch 78 46 = some (.ireturn, 1, [0]) := by decide +kernel
theorem f_78_47 : mFetch 78 47 = some (.aload_n 0, 1, []) := by decide +kernel
theorem f_78_48 : mFetch 78 48 = some (.getfield 27, 3, [7, 0, 0, 120]) := by decide +kernel
theorem f_78_51 : mFetch 78 51 = some (.iload_n 1, 1, []) := by decide +kernel
theorem f_78_52 : mFetch 78 52 = some (.invokevirtual 62, 3, [59, 2, 2, 5, 1047, 1048, 1049]) := by decide +kernel
theorem f_78_55 : mFetch 78 55 = some (.ifCond .eq 19, 3, [74]) := by decide +kernel
theorem f_78_58 : mFetch 78 58 = some (.iload_n 2, 1, []) := by decide +kernel
theorem f_78_59 : mFetch 78 59 = some (.bipush 6, 2, []) := by decide +kernel
theorem f_78_61 : mFetch 78 61 = some (.if_icmp .le 9, 3, [70]) := by decide +kernel
theorem f_78_64 : mFetch 78 64 = some (.sipush 261, 3, []) := by decide +kernel
theorem f_78_67 : mFetch 78 67 = some (.goto 6, 3, [73]) := by decide +kernel
theorem f_78_70 : mFetch 78 70 = some (.sipush 259, 3, []) := by decide +kernel
theorem f_78_73 : mFetch 78 73 = some (.ireturn, 1, [0]) := by decide +kernel
theorem f_78_74 : mFetch 78 74 = some (.iload_n 2, 1, []) := by decide +kernel
theorem f_78_75 : mFetch 78 75 = some (.iconst 2, 1, []) := by decide +kernel
theorem f_78_76 : mFetch 78 76 = some (.if_icmp .ne 19, 3, [95]) := by decide +kernel
theorem f_78_79 : mFetch 78 79 = some (.iload_n 3, 1, []) := by decide +kernel
theorem f_78_80 : mFetch 78 80 = some (.bipush 60, 2, []) := by decide +kernel
theorem f_78_82 : mFetch 78 82 = some (.if_icmp .ne 9, 3, [91]) := by decide +kernel
theorem f_78_85 : mFetch 78 85 = some (.sipush 256, 3, []) := by decide +kernel
theorem f_78_88 : mFetch 78 88 = some (.goto 6, 3, [94]) := by decide +kernel
theorem f_78_91 : mFetch 78 91 = some (.sipush 257, 3, []) := by decide +kernel
theorem f_78_94 : mFetch 78 94 = some (.ireturn, 1, [0]) := by decide +kernel
theorem f_78_95 : mFetch 78 95 = some (.ldc 78, 2, [1, 4]) := by decide +kernel
theorem f_78_97 : mFetch 78 97 = some (.iload_n 3, 1, []) := by decide +kernel
theorem f_78_98 : mFetch 78 98 = some (.i2c, 1, []) := by decide +kernel
theorem f_78_99 : mFetch 78 99 = some (.invokevirtual 80, 3, [151, 2, 2, 11, 1110, 1111, 1112]) := by decide +kernel
theorem f_78_102 : mFetch 78 102 = some (.ifCond .lt 7, 3, [109]) := by decide +kernel
theorem f_78_105 : mFetch 78 105 = some (.iload_n 3, 1, []) := by decide +kernel
theorem f_78_106 : mFetch 78 106 = some (.goto 6, 3, [112]) := by decide +kernel
theorem f_78_109 : mFetch 78 109 = some (.sipush 261, 3, []) := by decide +kernel
theorem f_78_112 : mFetch 78 112 = some (.ireturn, 1, [0]) := by decide +kernel
theorem b_78_0 {d : Nat} {a0 : Nat} {x1 : Int32} {x2 : Int32} {w : MW} (h0 : mTg w a0 = 7) (h1 : mR w a0 0 = some (gR w a0 0)) (h2 : mTg w (gR w a0 0) = 5) : mX (d + 1) 78 0 [.ref a0, .int x1, .int x2, mJ] [] w = mThen (mK d 57 [.ref (gR w a0 0), .int x1] w) (fun v w9 => mX (d + 1) 78 8 [.ref a0, .int x1, .int x2, mJ] (v.toList ++ []) w9) := by
  refine Eq.trans (X_st f_78_0 rfl rfl) ?_
  refine Eq.trans (X_getR f_78_1 h0 rfl h1) ?_
  refine Eq.trans (X_st f_78_4 rfl rfl) ?_
  refine Eq.trans (X_call f_78_5 (by decide) rfl rfl rfl rfl rfl rfl (Nat.le_of_ble_eq_true rfl) (Nat.le_of_ble_eq_true rfl) (decide_eq_true h2) (Nat.le_of_ble_eq_true rfl)) ?_
  exact mThen_eq fun v w9 => mX_mask rfl
theorem e_78 {d : Nat} {a0 : Nat} {x1 : Int32} {x2 : Int32} {w : MW} : mK d 78 [.ref a0, .int x1, .int x2] w = mX d 78 0 [.ref a0, .int x1, .int x2, mJ] [] w := rfl
theorem b_78_8 {d : Nat} {a0 : Nat} {x1 : Int32} {x2 : Int32} {y0 : Int32} {w : MW} : mX d 78 8 [.ref a0, .int x1, .int x2, mJ] [.int y0] w = (if nI 0 ≤ y0 then mX d 78 17 [.ref a0, .int x1, .int x2, .int y0] [] w else mX d 78 13 [mJ, mJ, mJ, mJ] [] w) := by
  refine Eq.trans (X_istore_n (L' := [.ref a0, .int x1, .int x2, .int y0]) f_78_8 (Nat.le_of_ble_eq_true rfl) rfl) ?_
  refine Eq.trans (X_st f_78_9 rfl rfl) ?_
  refine Eq.trans (X_br f_78_10 rfl rfl) ?_
  exact mIte_eq (mX_mask rfl) (mX_mask rfl)
theorem b_78_13 {d : Nat} {w : MW} : mX d 78 13 [mJ, mJ, mJ, mJ] [] w = some (.inl (some (.int (nI 260))), w) := by
  refine Eq.trans (X_sipush f_78_13 kc_s_260) ?_
  exact X_ireturn f_78_16 rfl
theorem b_78_17 {d : Nat} {a0 : Nat} {x1 : Int32} {x2 : Int32} {x3 : Int32} {w : MW} (h0 : mTg w a0 = 7) (h1 : mR w a0 0 = some (gR w a0 0)) (h2 : mTg w (gR w a0 0) = 5) : mX (d + 1) 78 17 [.ref a0, .int x1, .int x2, .int x3] [] w = mThen (mK d 58 [.ref (gR w a0 0), .int x1] w) (fun v w9 => mX (d + 1) 78 25 [.ref a0, .int x1, .int x2, .int x3] (v.toList ++ []) w9) := by
  refine Eq.trans (X_st f_78_17 rfl rfl) ?_
  refine Eq.trans (X_getR f_78_18 h0 rfl h1) ?_
  refine Eq.trans (X_st f_78_21 rfl rfl) ?_
  refine Eq.trans (X_call f_78_22 (by decide) rfl rfl rfl rfl rfl rfl (Nat.le_of_ble_eq_true rfl) (Nat.le_of_ble_eq_true rfl) (decide_eq_true h2) (Nat.le_of_ble_eq_true rfl)) ?_
  exact mThen_eq fun v w9 => mX_mask rfl
theorem b_78_25 {d : Nat} {a0 : Nat} {x1 : Int32} {x2 : Int32} {x3 : Int32} {y0 : Int32} {w : MW} : mX d 78 25 [.ref a0, .int x1, .int x2, .int x3] [.int y0] w = (if y0 = nI 0 then mX d 78 47 [.ref a0, .int x1, .int x2, .int x3] [] w else mX d 78 28 [.ref a0, .int x1, .int x2, mJ] [] w) := by
  refine Eq.trans (X_br f_78_25 rfl rfl) ?_
  exact mIte_eq (mX_mask rfl) (mX_mask rfl)
theorem b_78_28 {d : Nat} {a0 : Nat} {x1 : Int32} {x2 : Int32} {w : MW} : mX d 78 28 [.ref a0, .int x1, .int x2, mJ] [] w = (if x2 ≤ (nI 10) then mX d 78 40 [.ref a0, .int x1, .int x2, mJ] [] w else mX d 78 34 [mJ, mJ, mJ, mJ] [] w) := by
  refine Eq.trans (X_st f_78_28 rfl rfl) ?_
  refine Eq.trans (X_bipush f_78_29 kc_b_10) ?_
  refine Eq.trans (X_br f_78_31 rfl rfl) ?_
  exact mIte_eq (mX_mask rfl) (mX_mask rfl)
theorem b_78_34 {d : Nat} {w : MW} : mX d 78 34 [mJ, mJ, mJ, mJ] [] w = mX d 78 46 [mJ, mJ, mJ, mJ] [.int (nI 261)] w := by
  refine Eq.trans (X_sipush f_78_34 kc_s_261) ?_
  refine Eq.trans (X_st f_78_37 rfl rfl) ?_
  exact mX_mask rfl
theorem b_78_40 {d : Nat} {a0 : Nat} {x1 : Int32} {x2 : Int32} {w : MW} (h0 : mTg w a0 = 7) : mX (d + 1) 78 40 [.ref a0, .int x1, .int x2, mJ] [] w = mThen (mK d 79 [.ref a0, .int x1, .int x2] w) (fun v w9 => mX (d + 1) 78 46 [mJ, mJ, mJ, mJ] (v.toList ++ []) w9) := by
  refine Eq.trans (X_st f_78_40 rfl rfl) ?_
  refine Eq.trans (X_st f_78_41 rfl rfl) ?_
  refine Eq.trans (X_st f_78_42 rfl rfl) ?_
  refine Eq.trans (X_call f_78_43 (by decide) rfl rfl rfl rfl rfl rfl (Nat.le_of_ble_eq_true rfl) (Nat.le_of_ble_eq_true rfl) (decide_eq_true h0) (Nat.le_of_ble_eq_true rfl)) ?_
  exact mThen_eq fun v w9 => mX_mask rfl
theorem b_78_46 {d : Nat} {y0 : Int32} {w : MW} : mX d 78 46 [mJ, mJ, mJ, mJ] [.int y0] w = some (.inl (some (.int y0)), w) := by
  exact X_ireturn f_78_46 rfl
theorem b_78_47 {d : Nat} {a0 : Nat} {x1 : Int32} {x2 : Int32} {x3 : Int32} {w : MW} (h0 : mTg w a0 = 7) (h1 : mR w a0 0 = some (gR w a0 0)) (h2 : mTg w (gR w a0 0) = 5) : mX (d + 1) 78 47 [.ref a0, .int x1, .int x2, .int x3] [] w = mThen (mK d 59 [.ref (gR w a0 0), .int x1] w) (fun v w9 => mX (d + 1) 78 55 [mJ, mJ, .int x2, .int x3] (v.toList ++ []) w9) := by
  refine Eq.trans (X_st f_78_47 rfl rfl) ?_
  refine Eq.trans (X_getR f_78_48 h0 rfl h1) ?_
  refine Eq.trans (X_st f_78_51 rfl rfl) ?_
  refine Eq.trans (X_call f_78_52 (by decide) rfl rfl rfl rfl rfl rfl (Nat.le_of_ble_eq_true rfl) (Nat.le_of_ble_eq_true rfl) (decide_eq_true h2) (Nat.le_of_ble_eq_true rfl)) ?_
  exact mThen_eq fun v w9 => mX_mask rfl
theorem b_78_55 {d : Nat} {x2 : Int32} {x3 : Int32} {y0 : Int32} {w : MW} : mX d 78 55 [mJ, mJ, .int x2, .int x3] [.int y0] w = (if y0 = nI 0 then mX d 78 74 [mJ, mJ, .int x2, .int x3] [] w else mX d 78 58 [mJ, mJ, .int x2, mJ] [] w) := by
  refine Eq.trans (X_br f_78_55 rfl rfl) ?_
  exact mIte_eq (mX_mask rfl) (mX_mask rfl)
theorem b_78_58 {d : Nat} {x2 : Int32} {w : MW} : mX d 78 58 [mJ, mJ, .int x2, mJ] [] w = (if x2 ≤ (nI 6) then mX d 78 70 [mJ, mJ, mJ, mJ] [] w else mX d 78 64 [mJ, mJ, mJ, mJ] [] w) := by
  refine Eq.trans (X_st f_78_58 rfl rfl) ?_
  refine Eq.trans (X_bipush f_78_59 kc_b_6) ?_
  refine Eq.trans (X_br f_78_61 rfl rfl) ?_
  exact mIte_eq (mX_mask rfl) (mX_mask rfl)
theorem b_78_64 {d : Nat} {w : MW} : mX d 78 64 [mJ, mJ, mJ, mJ] [] w = mX d 78 73 [mJ, mJ, mJ, mJ] [.int (nI 261)] w := by
  refine Eq.trans (X_sipush f_78_64 kc_s_261) ?_
  refine Eq.trans (X_st f_78_67 rfl rfl) ?_
  exact mX_mask rfl
theorem b_78_70 {d : Nat} {w : MW} : mX d 78 70 [mJ, mJ, mJ, mJ] [] w = mX d 78 73 [mJ, mJ, mJ, mJ] [.int (nI 259)] w := by
  refine Eq.trans (X_sipush f_78_70 kc_s_259) ?_
  exact mX_mask rfl
theorem b_78_73 {d : Nat} {y0 : Int32} {w : MW} : mX d 78 73 [mJ, mJ, mJ, mJ] [.int y0] w = some (.inl (some (.int y0)), w) := by
  exact X_ireturn f_78_73 rfl
theorem b_78_74 {d : Nat} {x2 : Int32} {x3 : Int32} {w : MW} : mX d 78 74 [mJ, mJ, .int x2, .int x3] [] w = (if ¬ x2 = (nI 2) then mX d 78 95 [mJ, mJ, mJ, .int x3] [] w else mX d 78 79 [mJ, mJ, mJ, .int x3] [] w) := by
  refine Eq.trans (X_st f_78_74 rfl rfl) ?_
  refine Eq.trans (X_iconst f_78_75 kc_i_2) ?_
  refine Eq.trans (X_br f_78_76 rfl rfl) ?_
  exact mIte_eq (mX_mask rfl) (mX_mask rfl)
theorem b_78_79 {d : Nat} {x3 : Int32} {w : MW} : mX d 78 79 [mJ, mJ, mJ, .int x3] [] w = (if ¬ x3 = (nI 60) then mX d 78 91 [mJ, mJ, mJ, mJ] [] w else mX d 78 85 [mJ, mJ, mJ, mJ] [] w) := by
  refine Eq.trans (X_st f_78_79 rfl rfl) ?_
  refine Eq.trans (X_bipush f_78_80 kc_b_60) ?_
  refine Eq.trans (X_br f_78_82 rfl rfl) ?_
  exact mIte_eq (mX_mask rfl) (mX_mask rfl)
theorem b_78_85 {d : Nat} {w : MW} : mX d 78 85 [mJ, mJ, mJ, mJ] [] w = mX d 78 94 [mJ, mJ, mJ, mJ] [.int (nI 256)] w := by
  refine Eq.trans (X_sipush f_78_85 kc_s_256) ?_
  refine Eq.trans (X_st f_78_88 rfl rfl) ?_
  exact mX_mask rfl
theorem b_78_91 {d : Nat} {w : MW} : mX d 78 91 [mJ, mJ, mJ, mJ] [] w = mX d 78 94 [mJ, mJ, mJ, mJ] [.int (nI 257)] w := by
  refine Eq.trans (X_sipush f_78_91 kc_s_257) ?_
  exact mX_mask rfl
theorem b_78_94 {d : Nat} {y0 : Int32} {w : MW} : mX d 78 94 [mJ, mJ, mJ, mJ] [.int y0] w = some (.inl (some (.int y0)), w) := by
  exact X_ireturn f_78_94 rfl
theorem b_78_95 {d : Nat} {x3 : Int32} {w : MW} (h0 : mTg w 4 = 11) : mX (d + 1) 78 95 [mJ, mJ, mJ, .int x3] [] w = mThen (mK d 151 [.ref 4, .int (x3.toUInt32 % 65536).toInt32] w) (fun v w9 => mX (d + 1) 78 102 [mJ, mJ, mJ, .int x3] (v.toList ++ []) w9) := by
  refine Eq.trans (X_st f_78_95 rfl rfl) ?_
  refine Eq.trans (X_st f_78_97 rfl rfl) ?_
  refine Eq.trans (X_st f_78_98 rfl rfl) ?_
  refine Eq.trans (X_call f_78_99 (by decide) rfl rfl rfl rfl rfl rfl (Nat.le_of_ble_eq_true rfl) (Nat.le_of_ble_eq_true rfl) (decide_eq_true h0) (Nat.le_of_ble_eq_true rfl)) ?_
  exact mThen_eq fun v w9 => mX_mask rfl
theorem b_78_102 {d : Nat} {x3 : Int32} {y0 : Int32} {w : MW} : mX d 78 102 [mJ, mJ, mJ, .int x3] [.int y0] w = (if y0 < nI 0 then mX d 78 109 [mJ, mJ, mJ, mJ] [] w else mX d 78 105 [mJ, mJ, mJ, .int x3] [] w) := by
  refine Eq.trans (X_br f_78_102 rfl rfl) ?_
  exact mIte_eq (mX_mask rfl) (mX_mask rfl)
theorem b_78_105 {d : Nat} {x3 : Int32} {w : MW} : mX d 78 105 [mJ, mJ, mJ, .int x3] [] w = mX d 78 112 [mJ, mJ, mJ, mJ] [.int x3] w := by
  refine Eq.trans (X_st f_78_105 rfl rfl) ?_
  refine Eq.trans (X_st f_78_106 rfl rfl) ?_
  exact mX_mask rfl
theorem b_78_109 {d : Nat} {w : MW} : mX d 78 109 [mJ, mJ, mJ, mJ] [] w = mX d 78 112 [mJ, mJ, mJ, mJ] [.int (nI 261)] w := by
  refine Eq.trans (X_sipush f_78_109 kc_s_261) ?_
  exact mX_mask rfl
theorem b_78_112 {d : Nat} {y0 : Int32} {w : MW} : mX d 78 112 [mJ, mJ, mJ, mJ] [.int y0] w = some (.inl (some (.int y0)), w) := by
  exact X_ireturn f_78_112 rfl
/-! BeeTurnpike$Tokens wordKindAt (II)I -/
theorem f_79_0 : mFetch 79 0 = some (.iconst 0, 1, []) := by decide +kernel
theorem f_79_1 : mFetch 79 1 = some (.istore_n 3, 1, []) := by decide +kernel
theorem f_79_2 : mFetch 79 2 = some (.iload_n 3, 1, []) := by decide +kernel
theorem f_79_3 : mFetch 79 3 = some (.bipush 31, 2, []) := by decide +kernel
theorem f_79_5 : mFetch 79 5 = some (.if_icmp .ge 24, 3, [29]) := by decide +kernel
theorem f_79_8 : mFetch 79 8 = some (.aload_n 0, 1, []) := by decide +kernel
theorem f_79_9 : mFetch 79 9 = some (.iload_n 3, 1, []) := by decide +kernel
theorem f_79_10 : mFetch 79 10 = some (.invokestatic 85, 3, [81, 1, 0, 0, 1068, 1069]) := by decide +kernel
theorem f_79_13 : mFetch 79 13 = some (.iload_n 1, 1, []) := by decide +kernel
theorem f_79_14 : mFetch 79 14 = some (.iload_n 2, 1, []) := by decide +kernel
theorem f_79_15 : mFetch 79 15 = some (.invokevirtual 89, 3, [80, 4, 2, 7, 1103, 1105, 37]) := by decide +kernel
theorem f_79_18 : mFetch 79 18 = some (.ifCond .eq 5, 3, [23]) := by decide +kernel
theorem f_79_21 : mFetch 79 21 = some (.iload_n 3, 1, []) := by decide +kernel
theorem f_79_22 : mFetch 79 22 = some (.ireturn, 1, [0]) := by decide +kernel
theorem f_79_23 : mFetch 79 23 = some (.iinc 3 1, 3, []) := by decide +kernel
theorem f_79_26 : mFetch 79 26 = some (.goto (-24), 3, [2]) := by decide +kernel
theorem f_79_29 : mFetch 79 29 = some (.sipush 258, 3, []) := by decide +kernel
theorem f_79_32 : mFetch 79 32 = some (.ireturn, 1, [0]) := by decide +kernel
theorem b_79_0 {d : Nat} {a0 : Nat} {x1 : Int32} {x2 : Int32} {w : MW} : mX d 79 0 [.ref a0, .int x1, .int x2, mJ] [] w = mX d 79 2 [.ref a0, .int x1, .int x2, .int (nI 0)] [] w := by
  refine Eq.trans (X_iconst f_79_0 kc_i_0) ?_
  refine Eq.trans (X_istore_n (L' := [.ref a0, .int x1, .int x2, .int (nI 0)]) f_79_1 (Nat.le_of_ble_eq_true rfl) rfl) ?_
  exact mX_mask rfl
theorem e_79 {d : Nat} {a0 : Nat} {x1 : Int32} {x2 : Int32} {w : MW} : mK d 79 [.ref a0, .int x1, .int x2] w = mX d 79 0 [.ref a0, .int x1, .int x2, mJ] [] w := rfl
theorem b_79_2 {d : Nat} {a0 : Nat} {x1 : Int32} {x2 : Int32} {x3 : Int32} {w : MW} : mX d 79 2 [.ref a0, .int x1, .int x2, .int x3] [] w = (if (nI 31) ≤ x3 then mX d 79 29 [mJ, mJ, mJ, mJ] [] w else mX d 79 8 [.ref a0, .int x1, .int x2, .int x3] [] w) := by
  refine Eq.trans (X_st f_79_2 rfl rfl) ?_
  refine Eq.trans (X_bipush f_79_3 kc_b_31) ?_
  refine Eq.trans (X_br f_79_5 rfl rfl) ?_
  exact mIte_eq (mX_mask rfl) (mX_mask rfl)
theorem b_79_8 {d : Nat} {a0 : Nat} {x1 : Int32} {x2 : Int32} {x3 : Int32} {w : MW} : mX (d + 1) 79 8 [.ref a0, .int x1, .int x2, .int x3] [] w = mThen (mK d 81 [.int x3] w) (fun v w9 => mX (d + 1) 79 13 [.ref a0, .int x1, .int x2, .int x3] (v.toList ++ [.ref a0]) w9) := by
  refine Eq.trans (X_st f_79_8 rfl rfl) ?_
  refine Eq.trans (X_st f_79_9 rfl rfl) ?_
  refine Eq.trans (X_call f_79_10 (by decide) rfl rfl rfl rfl rfl rfl (Nat.le_of_ble_eq_true rfl) (Nat.le_of_ble_eq_true rfl) rfl (Nat.le_of_ble_eq_true rfl)) ?_
  exact mThen_eq fun v w9 => mX_mask rfl
theorem b_79_13 {d : Nat} {a0 : Nat} {x1 : Int32} {x2 : Int32} {x3 : Int32} {b0 : Nat} {b1 : Nat} {w : MW} (h0 : mTg w b1 = 7) : mX (d + 1) 79 13 [.ref a0, .int x1, .int x2, .int x3] [.ref b0, .ref b1] w = mThen (mK d 80 [.ref b1, .ref b0, .int x1, .int x2] w) (fun v w9 => mX (d + 1) 79 18 [.ref a0, .int x1, .int x2, .int x3] (v.toList ++ []) w9) := by
  refine Eq.trans (X_st f_79_13 rfl rfl) ?_
  refine Eq.trans (X_st f_79_14 rfl rfl) ?_
  refine Eq.trans (X_call f_79_15 (by decide) rfl rfl rfl rfl rfl rfl (Nat.le_of_ble_eq_true rfl) (Nat.le_of_ble_eq_true rfl) (decide_eq_true h0) (Nat.le_of_ble_eq_true rfl)) ?_
  exact mThen_eq fun v w9 => mX_mask rfl
theorem b_79_18 {d : Nat} {a0 : Nat} {x1 : Int32} {x2 : Int32} {x3 : Int32} {y0 : Int32} {w : MW} : mX d 79 18 [.ref a0, .int x1, .int x2, .int x3] [.int y0] w = (if y0 = nI 0 then mX d 79 23 [.ref a0, .int x1, .int x2, .int x3] [] w else mX d 79 21 [mJ, mJ, mJ, .int x3] [] w) := by
  refine Eq.trans (X_br f_79_18 rfl rfl) ?_
  exact mIte_eq (mX_mask rfl) (mX_mask rfl)
theorem b_79_21 {d : Nat} {x3 : Int32} {w : MW} : mX d 79 21 [mJ, mJ, mJ, .int x3] [] w = some (.inl (some (.int x3)), w) := by
  refine Eq.trans (X_st f_79_21 rfl rfl) ?_
  exact X_ireturn f_79_22 rfl
theorem b_79_23 {d : Nat} {a0 : Nat} {x1 : Int32} {x2 : Int32} {x3 : Int32} {w : MW} : mX d 79 23 [.ref a0, .int x1, .int x2, .int x3] [] w = mX d 79 2 [.ref a0, .int x1, .int x2, .int (x3 + (nI 1))] [] w := by
  refine Eq.trans (X_iinc f_79_23 kc_i_1 rfl rfl) ?_
  refine Eq.trans (X_st f_79_26 rfl rfl) ?_
  exact mX_mask rfl
theorem b_79_29 {d : Nat} {w : MW} : mX d 79 29 [mJ, mJ, mJ, mJ] [] w = some (.inl (some (.int (nI 258))), w) := by
  refine Eq.trans (X_sipush f_79_29 kc_s_258) ?_
  exact X_ireturn f_79_32 rfl
/-! BeeTurnpike$Tokens isTextAt (Ljava/lang/String;II)Z -/
theorem f_80_0 : mFetch 80 0 = some (.aload_n 1, 1, []) := by decide +kernel
theorem f_80_1 : mFetch 80 1 = some (.invokevirtual 93, 3, [149, 1, 2, 11, 1107, 942, 943]) := by decide +kernel
theorem f_80_4 : mFetch 80 4 = some (.iload_n 3, 1, []) := by decide +kernel
theorem f_80_5 : mFetch 80 5 = some (.if_icmp .eq 5, 3, [10]) := by decide +kernel
theorem f_80_8 : mFetch 80 8 = some (.iconst 0, 1, []) := by decide +kernel
theorem f_80_9 : mFetch 80 9 = some (.ireturn, 1, [2]) := by decide +kernel
theorem f_80_10 : mFetch 80 10 = some (.iconst 0, 1, []) := by decide +kernel
theorem f_80_11 : mFetch 80 11 = some (.istore 4, 2, []) := by decide +kernel
theorem f_80_13 : mFetch 80 13 = some (.iload 4, 2, []) := by decide +kernel
theorem f_80_15 : mFetch 80 15 = some (.aload_n 1, 1, []) := by decide +kernel
theorem f_80_16 : mFetch 80 16 = some (.invokevirtual 93, 3, [149, 1, 2, 11, 1107, 942, 943]) := by decide +kernel
theorem f_80_19 : mFetch 80 19 = some (.if_icmp .ge 31, 3, [50]) := by decide +kernel
theorem f_80_22 : mFetch 80 22 = some (.aload_n 1, 1, []) := by decide +kernel
theorem f_80_23 : mFetch 80 23 = some (.iload 4, 2, []) := by decide +kernel
theorem f_80_25 : mFetch 80 25 = some (.invokevirtual 97, 3, [150, 2, 2, 11, 1108, 952, 953]) := by decide +kernel
theorem f_80_28 : mFetch 80 28 = some (.aload_n 0, 1, []) := by decide +kernel
theorem f_80_29 : mFetch 80 29 = some (.getfield 27, 3, [7, 0, 0, 120]) := by decide +kernel
theorem f_80_32 : mFetch 80 32 = some (.iload_n 2, 1, []) := by decide +kernel
theorem f_80_33 : mFetch 80 33 = some (.iload 4, 2, []) := by decide +kernel
theorem f_80_35 : mFetch 80 35 = some (.iadd, 1, []) := by decide +kernel
theorem f_80_36 : mFetch 80 36 = some (.invokevirtual 72, 3, [57, 2, 2, 5, 1055, 1036, 1037]) := by decide +kernel
theorem f_80_39 : mFetch 80 39 = some (.if_icmp .eq 5, 3, [44]) := by decide +kernel
theorem f_80_42 : mFetch 80 42 = some (.iconst 0, 1, []) := by decide +kernel
theorem f_80_43 : mFetch 80 43 = some (.ireturn, 1, [2]) := by decide +kernel
theorem f_80_44 : mFetch 80 44 = some (.iinc 4 1, 3, []) := by decide +kernel
theorem f_80_47 : mFetch 80 47 = some (.goto (-34), 3, [13]) := by decide +kernel
theorem f_80_50 : mFetch 80 50 = some (.iconst 1, 1, []) := by decide +kernel
theorem f_80_51 : mFetch 80 51 = some (.ireturn, 1, [2]) := by decide +kernel
theorem b_80_0 {d : Nat} {a0 : Nat} {a1 : Nat} {x2 : Int32} {x3 : Int32} {w : MW} (h0 : mTg w a1 = 11) : mX (d + 1) 80 0 [.ref a0, .ref a1, .int x2, .int x3, mJ] [] w = mThen (mK d 149 [.ref a1] w) (fun v w9 => mX (d + 1) 80 4 [.ref a0, .ref a1, .int x2, .int x3, mJ] (v.toList ++ []) w9) := by
  refine Eq.trans (X_st f_80_0 rfl rfl) ?_
  refine Eq.trans (X_call f_80_1 (by decide) rfl rfl rfl rfl rfl rfl (Nat.le_of_ble_eq_true rfl) (Nat.le_of_ble_eq_true rfl) (decide_eq_true h0) (Nat.le_of_ble_eq_true rfl)) ?_
  exact mThen_eq fun v w9 => mX_mask rfl
theorem e_80 {d : Nat} {a0 : Nat} {a1 : Nat} {x2 : Int32} {x3 : Int32} {w : MW} : mK d 80 [.ref a0, .ref a1, .int x2, .int x3] w = mX d 80 0 [.ref a0, .ref a1, .int x2, .int x3, mJ] [] w := rfl
theorem b_80_4 {d : Nat} {a0 : Nat} {a1 : Nat} {x2 : Int32} {x3 : Int32} {y0 : Int32} {w : MW} : mX d 80 4 [.ref a0, .ref a1, .int x2, .int x3, mJ] [.int y0] w = (if y0 = x3 then mX d 80 10 [.ref a0, .ref a1, .int x2, mJ, mJ] [] w else mX d 80 8 [mJ, mJ, mJ, mJ, mJ] [] w) := by
  refine Eq.trans (X_st f_80_4 rfl rfl) ?_
  refine Eq.trans (X_br f_80_5 rfl rfl) ?_
  exact mIte_eq (mX_mask rfl) (mX_mask rfl)
theorem b_80_8 {d : Nat} {w : MW} : mX d 80 8 [mJ, mJ, mJ, mJ, mJ] [] w = some (.inl (some (.int (nI 0))), w) := by
  refine Eq.trans (X_iconst f_80_8 kc_i_0) ?_
  exact X_ireturn f_80_9 rfl
theorem b_80_10 {d : Nat} {a0 : Nat} {a1 : Nat} {x2 : Int32} {w : MW} : mX d 80 10 [.ref a0, .ref a1, .int x2, mJ, mJ] [] w = mX d 80 13 [.ref a0, .ref a1, .int x2, mJ, .int (nI 0)] [] w := by
  refine Eq.trans (X_iconst f_80_10 kc_i_0) ?_
  refine Eq.trans (X_istore (L' := [.ref a0, .ref a1, .int x2, mJ, .int (nI 0)]) f_80_11 (Nat.le_of_ble_eq_true rfl) rfl) ?_
  exact mX_mask rfl
theorem b_80_13 {d : Nat} {a0 : Nat} {a1 : Nat} {x2 : Int32} {x4 : Int32} {w : MW} (h0 : mTg w a1 = 11) : mX (d + 1) 80 13 [.ref a0, .ref a1, .int x2, mJ, .int x4] [] w = mThen (mK d 149 [.ref a1] w) (fun v w9 => mX (d + 1) 80 19 [.ref a0, .ref a1, .int x2, mJ, .int x4] (v.toList ++ [.int x4]) w9) := by
  refine Eq.trans (X_st f_80_13 rfl rfl) ?_
  refine Eq.trans (X_st f_80_15 rfl rfl) ?_
  refine Eq.trans (X_call f_80_16 (by decide) rfl rfl rfl rfl rfl rfl (Nat.le_of_ble_eq_true rfl) (Nat.le_of_ble_eq_true rfl) (decide_eq_true h0) (Nat.le_of_ble_eq_true rfl)) ?_
  exact mThen_eq fun v w9 => mX_mask rfl
theorem b_80_19 {d : Nat} {a0 : Nat} {a1 : Nat} {x2 : Int32} {x4 : Int32} {y0 : Int32} {y1 : Int32} {w : MW} : mX d 80 19 [.ref a0, .ref a1, .int x2, mJ, .int x4] [.int y0, .int y1] w = (if y0 ≤ y1 then mX d 80 50 [mJ, mJ, mJ, mJ, mJ] [] w else mX d 80 22 [.ref a0, .ref a1, .int x2, mJ, .int x4] [] w) := by
  refine Eq.trans (X_br f_80_19 rfl rfl) ?_
  exact mIte_eq (mX_mask rfl) (mX_mask rfl)
theorem b_80_22 {d : Nat} {a0 : Nat} {a1 : Nat} {x2 : Int32} {x4 : Int32} {w : MW} (h0 : mTg w a1 = 11) : mX (d + 1) 80 22 [.ref a0, .ref a1, .int x2, mJ, .int x4] [] w = mThen (mK d 150 [.ref a1, .int x4] w) (fun v w9 => mX (d + 1) 80 28 [.ref a0, .ref a1, .int x2, mJ, .int x4] (v.toList ++ []) w9) := by
  refine Eq.trans (X_st f_80_22 rfl rfl) ?_
  refine Eq.trans (X_st f_80_23 rfl rfl) ?_
  refine Eq.trans (X_call f_80_25 (by decide) rfl rfl rfl rfl rfl rfl (Nat.le_of_ble_eq_true rfl) (Nat.le_of_ble_eq_true rfl) (decide_eq_true h0) (Nat.le_of_ble_eq_true rfl)) ?_
  exact mThen_eq fun v w9 => mX_mask rfl
theorem b_80_28 {d : Nat} {a0 : Nat} {a1 : Nat} {x2 : Int32} {x4 : Int32} {y0 : Int32} {w : MW} (h0 : mTg w a0 = 7) (h1 : mR w a0 0 = some (gR w a0 0)) (h2 : mTg w (gR w a0 0) = 5) : mX (d + 1) 80 28 [.ref a0, .ref a1, .int x2, mJ, .int x4] [.int y0] w = mThen (mK d 57 [.ref (gR w a0 0), .int (x2 + x4)] w) (fun v w9 => mX (d + 1) 80 39 [.ref a0, .ref a1, .int x2, mJ, .int x4] (v.toList ++ [.int y0]) w9) := by
  refine Eq.trans (X_st f_80_28 rfl rfl) ?_
  refine Eq.trans (X_getR f_80_29 h0 rfl h1) ?_
  refine Eq.trans (X_st f_80_32 rfl rfl) ?_
  refine Eq.trans (X_st f_80_33 rfl rfl) ?_
  refine Eq.trans (X_st f_80_35 rfl rfl) ?_
  refine Eq.trans (X_call f_80_36 (by decide) rfl rfl rfl rfl rfl rfl (Nat.le_of_ble_eq_true rfl) (Nat.le_of_ble_eq_true rfl) (decide_eq_true h2) (Nat.le_of_ble_eq_true rfl)) ?_
  exact mThen_eq fun v w9 => mX_mask rfl
theorem b_80_39 {d : Nat} {a0 : Nat} {a1 : Nat} {x2 : Int32} {x4 : Int32} {y0 : Int32} {y1 : Int32} {w : MW} : mX d 80 39 [.ref a0, .ref a1, .int x2, mJ, .int x4] [.int y0, .int y1] w = (if y1 = y0 then mX d 80 44 [.ref a0, .ref a1, .int x2, mJ, .int x4] [] w else mX d 80 42 [mJ, mJ, mJ, mJ, mJ] [] w) := by
  refine Eq.trans (X_br f_80_39 rfl rfl) ?_
  exact mIte_eq (mX_mask rfl) (mX_mask rfl)
theorem b_80_42 {d : Nat} {w : MW} : mX d 80 42 [mJ, mJ, mJ, mJ, mJ] [] w = some (.inl (some (.int (nI 0))), w) := by
  refine Eq.trans (X_iconst f_80_42 kc_i_0) ?_
  exact X_ireturn f_80_43 rfl
theorem b_80_44 {d : Nat} {a0 : Nat} {a1 : Nat} {x2 : Int32} {x4 : Int32} {w : MW} : mX d 80 44 [.ref a0, .ref a1, .int x2, mJ, .int x4] [] w = mX d 80 13 [.ref a0, .ref a1, .int x2, mJ, .int (x4 + (nI 1))] [] w := by
  refine Eq.trans (X_iinc f_80_44 kc_i_1 rfl rfl) ?_
  refine Eq.trans (X_st f_80_47 rfl rfl) ?_
  exact mX_mask rfl
theorem b_80_50 {d : Nat} {w : MW} : mX d 80 50 [mJ, mJ, mJ, mJ, mJ] [] w = some (.inl (some (.int (nI 1))), w) := by
  refine Eq.trans (X_iconst f_80_50 kc_i_1) ?_
  exact X_ireturn f_80_51 rfl
/-! BeeTurnpike$Tokens keywordText (I)Ljava/lang/String; -/
theorem f_81_0 : mFetch 81 0 = some (.iload_n 0, 1, []) := by decide +kernel
theorem f_81_1 : mFetch 81 1 = some (.tableswitch 232 0 30 #[139, 142, 145, 148, 151, 154, 157, 160, 163, 166, 169, 172, 175, 178, 181, 184, 187, 190, 193, 196, 199, 202, 205, 208, 211, 214, 217, 220, 223, 226, 229], 139, [233, 140, 143, 146, 149, 152, 155, 158, 161, 164, 167, 170, 173, 176, 179, 182, 185, 188, 191, 194, 197, 200, 203, 206, 209, 212, 215, 218, 221, 224, 227, 230]) := by decide +kernel
theorem f_81_140 : mFetch 81 140 = some (.ldc 101, 2, [1, 6]) := by decide +kernel
theorem f_81_142 : mFetch 81 142 = some (.areturn, 1, []) := by decide +kernel
theorem f_81_143 : mFetch 81 143 = some (.ldc 103, 2, [1, 8]) := by decide +kernel
theorem f_81_145 : mFetch 81 145 = some (.areturn, 1, []) := by decide +kernel
theorem f_81_146 : mFetch 81 146 = some (.ldc 105, 2, [1, 10]) := by decide +kernel
theorem f_81_148 : mFetch 81 148 = some (.areturn, 1, []) := by decide +kernel
theorem f_81_149 : mFetch 81 149 = some (.ldc 107, 2, [1, 12]) := by decide +kernel
theorem f_81_151 : mFetch 81 151 = some (.areturn, 1, []) := by decide +kernel
theorem f_81_152 : mFetch 81 152 = some (.ldc 109, 2, [1, 14]) := by decide +kernel
theorem f_81_154 : mFetch 81 154 = some (.areturn, 1, []) := by decide +kernel
theorem f_81_155 : mFetch 81 155 = some (.ldc 111, 2, [1, 16]) := by decide +kernel
theorem f_81_157 : mFetch 81 157 = some (.areturn, 1, []) := by decide +kernel
theorem f_81_158 : mFetch 81 158 = some (.ldc 113, 2, [1, 18]) := by decide +kernel
theorem f_81_160 : mFetch 81 160 = some (.areturn, 1, []) := by decide +kernel
theorem f_81_161 : mFetch 81 161 = some (.ldc 115, 2, [1, 20]) := by decide +kernel
theorem f_81_163 : mFetch 81 163 = some (.areturn, 1, []) := by decide +kernel
theorem f_81_164 : mFetch 81 164 = some (.ldc 117, 2, [1, 22]) := by decide +kernel
theorem f_81_166 : mFetch 81 166 = some (.areturn, 1, []) := by decide +kernel
theorem f_81_167 : mFetch 81 167 = some (.ldc 119, 2, [1, 24]) := by decide +kernel
theorem f_81_169 : mFetch 81 169 = some (.areturn, 1, []) := by decide +kernel
theorem f_81_170 : mFetch 81 170 = some (.ldc 121, 2, [1, 26]) := by decide +kernel
theorem f_81_172 : mFetch 81 172 = some (.areturn, 1, []) := by decide +kernel
theorem f_81_173 : mFetch 81 173 = some (.ldc 123, 2, [1, 28]) := by decide +kernel
theorem f_81_175 : mFetch 81 175 = some (.areturn, 1, []) := by decide +kernel
theorem f_81_176 : mFetch 81 176 = some (.ldc 125, 2, [1, 30]) := by decide +kernel
theorem f_81_178 : mFetch 81 178 = some (.areturn, 1, []) := by decide +kernel
theorem f_81_179 : mFetch 81 179 = some (.ldc 127, 2, [1, 32]) := by decide +kernel
theorem f_81_181 : mFetch 81 181 = some (.areturn, 1, []) := by decide +kernel
theorem f_81_182 : mFetch 81 182 = some (.ldc 129, 2, [1, 34]) := by decide +kernel
theorem f_81_184 : mFetch 81 184 = some (.areturn, 1, []) := by decide +kernel
theorem f_81_185 : mFetch 81 185 = some (.ldc 131, 2, [1, 36]) := by decide +kernel
theorem f_81_187 : mFetch 81 187 = some (.areturn, 1, []) := by decide +kernel
theorem f_81_188 : mFetch 81 188 = some (.ldc 133, 2, [1, 38]) := by decide +kernel
theorem f_81_190 : mFetch 81 190 = some (.areturn, 1, []) := by decide +kernel
theorem f_81_191 : mFetch 81 191 = some (.ldc 135, 2, [1, 40]) := by decide +kernel
theorem f_81_193 : mFetch 81 193 = some (.areturn, 1, []) := by decide +kernel
theorem f_81_194 : mFetch 81 194 = some (.ldc 137, 2, [1, 42]) := by decide +kernel
theorem f_81_196 : mFetch 81 196 = some (.areturn, 1, []) := by decide +kernel
theorem f_81_197 : mFetch 81 197 = some (.ldc 139, 2, [1, 44]) := by decide +kernel
theorem f_81_199 : mFetch 81 199 = some (.areturn, 1, []) := by decide +kernel
theorem f_81_200 : mFetch 81 200 = some (.ldc 141, 2, [1, 46]) := by decide +kernel
theorem f_81_202 : mFetch 81 202 = some (.areturn, 1, []) := by decide +kernel
theorem f_81_203 : mFetch 81 203 = some (.ldc 143, 2, [1, 48]) := by decide +kernel
theorem f_81_205 : mFetch 81 205 = some (.areturn, 1, []) := by decide +kernel
theorem f_81_206 : mFetch 81 206 = some (.ldc 145, 2, [1, 50]) := by decide +kernel
theorem f_81_208 : mFetch 81 208 = some (.areturn, 1, []) := by decide +kernel
theorem f_81_209 : mFetch 81 209 = some (.ldc 147, 2, [1, 52]) := by decide +kernel
theorem f_81_211 : mFetch 81 211 = some (.areturn, 1, []) := by decide +kernel
theorem f_81_212 : mFetch 81 212 = some (.ldc 149, 2, [1, 54]) := by decide +kernel
theorem f_81_214 : mFetch 81 214 = some (.areturn, 1, []) := by decide +kernel
theorem f_81_215 : mFetch 81 215 = some (.ldc 151, 2, [1, 56]) := by decide +kernel
theorem f_81_217 : mFetch 81 217 = some (.areturn, 1, []) := by decide +kernel
theorem f_81_218 : mFetch 81 218 = some (.ldc 153, 2, [1, 58]) := by decide +kernel
theorem f_81_220 : mFetch 81 220 = some (.areturn, 1, []) := by decide +kernel
theorem f_81_221 : mFetch 81 221 = some (.ldc 155, 2, [1, 60]) := by decide +kernel
theorem f_81_223 : mFetch 81 223 = some (.areturn, 1, []) := by decide +kernel
theorem f_81_224 : mFetch 81 224 = some (.ldc 157, 2, [1, 62]) := by decide +kernel
theorem f_81_226 : mFetch 81 226 = some (.areturn, 1, []) := by decide +kernel
theorem f_81_227 : mFetch 81 227 = some (.ldc 159, 2, [1, 64]) := by decide +kernel
theorem f_81_229 : mFetch 81 229 = some (.areturn, 1, []) := by decide +kernel
theorem f_81_230 : mFetch 81 230 = some (.ldc 161, 2, [1, 66]) := by decide +kernel
theorem f_81_232 : mFetch 81 232 = some (.areturn, 1, []) := by decide +kernel
theorem f_81_233 : mFetch 81 233 = some (.ldc 163, 2, [1, 68]) := by decide +kernel
theorem f_81_235 : mFetch 81 235 = some (.areturn, 1, []) := by decide +kernel
theorem s_81_0_0 {d : Nat} {x0 : Int32} {w : MW} (h0 : x0 = (nI 0)) : mX d 81 0 [.int x0] [] w = mX d 81 140 [mJ] [] w := by
  refine Eq.trans (X_st f_81_0 rfl rfl) ?_
  refine Eq.trans (X_sw f_81_1 rfl (congrArg Value.int h0) rfl) ?_
  exact mX_mask rfl
theorem s_81_0_1 {d : Nat} {x0 : Int32} {w : MW} (h0 : x0 = (nI 1)) : mX d 81 0 [.int x0] [] w = mX d 81 143 [mJ] [] w := by
  refine Eq.trans (X_st f_81_0 rfl rfl) ?_
  refine Eq.trans (X_sw f_81_1 rfl (congrArg Value.int h0) rfl) ?_
  exact mX_mask rfl
theorem s_81_0_2 {d : Nat} {x0 : Int32} {w : MW} (h0 : x0 = (nI 2)) : mX d 81 0 [.int x0] [] w = mX d 81 146 [mJ] [] w := by
  refine Eq.trans (X_st f_81_0 rfl rfl) ?_
  refine Eq.trans (X_sw f_81_1 rfl (congrArg Value.int h0) rfl) ?_
  exact mX_mask rfl
theorem s_81_0_3 {d : Nat} {x0 : Int32} {w : MW} (h0 : x0 = (nI 3)) : mX d 81 0 [.int x0] [] w = mX d 81 149 [mJ] [] w := by
  refine Eq.trans (X_st f_81_0 rfl rfl) ?_
  refine Eq.trans (X_sw f_81_1 rfl (congrArg Value.int h0) rfl) ?_
  exact mX_mask rfl
theorem s_81_0_4 {d : Nat} {x0 : Int32} {w : MW} (h0 : x0 = (nI 4)) : mX d 81 0 [.int x0] [] w = mX d 81 152 [mJ] [] w := by
  refine Eq.trans (X_st f_81_0 rfl rfl) ?_
  refine Eq.trans (X_sw f_81_1 rfl (congrArg Value.int h0) rfl) ?_
  exact mX_mask rfl
theorem s_81_0_5 {d : Nat} {x0 : Int32} {w : MW} (h0 : x0 = (nI 5)) : mX d 81 0 [.int x0] [] w = mX d 81 155 [mJ] [] w := by
  refine Eq.trans (X_st f_81_0 rfl rfl) ?_
  refine Eq.trans (X_sw f_81_1 rfl (congrArg Value.int h0) rfl) ?_
  exact mX_mask rfl
theorem s_81_0_6 {d : Nat} {x0 : Int32} {w : MW} (h0 : x0 = (nI 6)) : mX d 81 0 [.int x0] [] w = mX d 81 158 [mJ] [] w := by
  refine Eq.trans (X_st f_81_0 rfl rfl) ?_
  refine Eq.trans (X_sw f_81_1 rfl (congrArg Value.int h0) rfl) ?_
  exact mX_mask rfl
theorem s_81_0_7 {d : Nat} {x0 : Int32} {w : MW} (h0 : x0 = (nI 7)) : mX d 81 0 [.int x0] [] w = mX d 81 161 [mJ] [] w := by
  refine Eq.trans (X_st f_81_0 rfl rfl) ?_
  refine Eq.trans (X_sw f_81_1 rfl (congrArg Value.int h0) rfl) ?_
  exact mX_mask rfl
theorem s_81_0_8 {d : Nat} {x0 : Int32} {w : MW} (h0 : x0 = (nI 8)) : mX d 81 0 [.int x0] [] w = mX d 81 164 [mJ] [] w := by
  refine Eq.trans (X_st f_81_0 rfl rfl) ?_
  refine Eq.trans (X_sw f_81_1 rfl (congrArg Value.int h0) rfl) ?_
  exact mX_mask rfl
theorem s_81_0_9 {d : Nat} {x0 : Int32} {w : MW} (h0 : x0 = (nI 9)) : mX d 81 0 [.int x0] [] w = mX d 81 167 [mJ] [] w := by
  refine Eq.trans (X_st f_81_0 rfl rfl) ?_
  refine Eq.trans (X_sw f_81_1 rfl (congrArg Value.int h0) rfl) ?_
  exact mX_mask rfl
theorem s_81_0_10 {d : Nat} {x0 : Int32} {w : MW} (h0 : x0 = (nI 10)) : mX d 81 0 [.int x0] [] w = mX d 81 170 [mJ] [] w := by
  refine Eq.trans (X_st f_81_0 rfl rfl) ?_
  refine Eq.trans (X_sw f_81_1 rfl (congrArg Value.int h0) rfl) ?_
  exact mX_mask rfl
theorem s_81_0_11 {d : Nat} {x0 : Int32} {w : MW} (h0 : x0 = (nI 11)) : mX d 81 0 [.int x0] [] w = mX d 81 173 [mJ] [] w := by
  refine Eq.trans (X_st f_81_0 rfl rfl) ?_
  refine Eq.trans (X_sw f_81_1 rfl (congrArg Value.int h0) rfl) ?_
  exact mX_mask rfl
theorem s_81_0_12 {d : Nat} {x0 : Int32} {w : MW} (h0 : x0 = (nI 12)) : mX d 81 0 [.int x0] [] w = mX d 81 176 [mJ] [] w := by
  refine Eq.trans (X_st f_81_0 rfl rfl) ?_
  refine Eq.trans (X_sw f_81_1 rfl (congrArg Value.int h0) rfl) ?_
  exact mX_mask rfl
theorem s_81_0_13 {d : Nat} {x0 : Int32} {w : MW} (h0 : x0 = (nI 13)) : mX d 81 0 [.int x0] [] w = mX d 81 179 [mJ] [] w := by
  refine Eq.trans (X_st f_81_0 rfl rfl) ?_
  refine Eq.trans (X_sw f_81_1 rfl (congrArg Value.int h0) rfl) ?_
  exact mX_mask rfl
theorem s_81_0_14 {d : Nat} {x0 : Int32} {w : MW} (h0 : x0 = (nI 14)) : mX d 81 0 [.int x0] [] w = mX d 81 182 [mJ] [] w := by
  refine Eq.trans (X_st f_81_0 rfl rfl) ?_
  refine Eq.trans (X_sw f_81_1 rfl (congrArg Value.int h0) rfl) ?_
  exact mX_mask rfl
theorem s_81_0_15 {d : Nat} {x0 : Int32} {w : MW} (h0 : x0 = (nI 15)) : mX d 81 0 [.int x0] [] w = mX d 81 185 [mJ] [] w := by
  refine Eq.trans (X_st f_81_0 rfl rfl) ?_
  refine Eq.trans (X_sw f_81_1 rfl (congrArg Value.int h0) rfl) ?_
  exact mX_mask rfl
theorem s_81_0_16 {d : Nat} {x0 : Int32} {w : MW} (h0 : x0 = (nI 16)) : mX d 81 0 [.int x0] [] w = mX d 81 188 [mJ] [] w := by
  refine Eq.trans (X_st f_81_0 rfl rfl) ?_
  refine Eq.trans (X_sw f_81_1 rfl (congrArg Value.int h0) rfl) ?_
  exact mX_mask rfl
theorem s_81_0_17 {d : Nat} {x0 : Int32} {w : MW} (h0 : x0 = (nI 17)) : mX d 81 0 [.int x0] [] w = mX d 81 191 [mJ] [] w := by
  refine Eq.trans (X_st f_81_0 rfl rfl) ?_
  refine Eq.trans (X_sw f_81_1 rfl (congrArg Value.int h0) rfl) ?_
  exact mX_mask rfl
theorem s_81_0_18 {d : Nat} {x0 : Int32} {w : MW} (h0 : x0 = (nI 18)) : mX d 81 0 [.int x0] [] w = mX d 81 194 [mJ] [] w := by
  refine Eq.trans (X_st f_81_0 rfl rfl) ?_
  refine Eq.trans (X_sw f_81_1 rfl (congrArg Value.int h0) rfl) ?_
  exact mX_mask rfl
theorem s_81_0_19 {d : Nat} {x0 : Int32} {w : MW} (h0 : x0 = (nI 19)) : mX d 81 0 [.int x0] [] w = mX d 81 197 [mJ] [] w := by
  refine Eq.trans (X_st f_81_0 rfl rfl) ?_
  refine Eq.trans (X_sw f_81_1 rfl (congrArg Value.int h0) rfl) ?_
  exact mX_mask rfl
theorem s_81_0_20 {d : Nat} {x0 : Int32} {w : MW} (h0 : x0 = (nI 20)) : mX d 81 0 [.int x0] [] w = mX d 81 200 [mJ] [] w := by
  refine Eq.trans (X_st f_81_0 rfl rfl) ?_
  refine Eq.trans (X_sw f_81_1 rfl (congrArg Value.int h0) rfl) ?_
  exact mX_mask rfl
theorem s_81_0_21 {d : Nat} {x0 : Int32} {w : MW} (h0 : x0 = (nI 21)) : mX d 81 0 [.int x0] [] w = mX d 81 203 [mJ] [] w := by
  refine Eq.trans (X_st f_81_0 rfl rfl) ?_
  refine Eq.trans (X_sw f_81_1 rfl (congrArg Value.int h0) rfl) ?_
  exact mX_mask rfl
theorem s_81_0_22 {d : Nat} {x0 : Int32} {w : MW} (h0 : x0 = (nI 22)) : mX d 81 0 [.int x0] [] w = mX d 81 206 [mJ] [] w := by
  refine Eq.trans (X_st f_81_0 rfl rfl) ?_
  refine Eq.trans (X_sw f_81_1 rfl (congrArg Value.int h0) rfl) ?_
  exact mX_mask rfl
theorem s_81_0_23 {d : Nat} {x0 : Int32} {w : MW} (h0 : x0 = (nI 23)) : mX d 81 0 [.int x0] [] w = mX d 81 209 [mJ] [] w := by
  refine Eq.trans (X_st f_81_0 rfl rfl) ?_
  refine Eq.trans (X_sw f_81_1 rfl (congrArg Value.int h0) rfl) ?_
  exact mX_mask rfl
theorem s_81_0_24 {d : Nat} {x0 : Int32} {w : MW} (h0 : x0 = (nI 24)) : mX d 81 0 [.int x0] [] w = mX d 81 212 [mJ] [] w := by
  refine Eq.trans (X_st f_81_0 rfl rfl) ?_
  refine Eq.trans (X_sw f_81_1 rfl (congrArg Value.int h0) rfl) ?_
  exact mX_mask rfl
theorem s_81_0_25 {d : Nat} {x0 : Int32} {w : MW} (h0 : x0 = (nI 25)) : mX d 81 0 [.int x0] [] w = mX d 81 215 [mJ] [] w := by
  refine Eq.trans (X_st f_81_0 rfl rfl) ?_
  refine Eq.trans (X_sw f_81_1 rfl (congrArg Value.int h0) rfl) ?_
  exact mX_mask rfl
theorem s_81_0_26 {d : Nat} {x0 : Int32} {w : MW} (h0 : x0 = (nI 26)) : mX d 81 0 [.int x0] [] w = mX d 81 218 [mJ] [] w := by
  refine Eq.trans (X_st f_81_0 rfl rfl) ?_
  refine Eq.trans (X_sw f_81_1 rfl (congrArg Value.int h0) rfl) ?_
  exact mX_mask rfl
theorem s_81_0_27 {d : Nat} {x0 : Int32} {w : MW} (h0 : x0 = (nI 27)) : mX d 81 0 [.int x0] [] w = mX d 81 221 [mJ] [] w := by
  refine Eq.trans (X_st f_81_0 rfl rfl) ?_
  refine Eq.trans (X_sw f_81_1 rfl (congrArg Value.int h0) rfl) ?_
  exact mX_mask rfl
theorem s_81_0_28 {d : Nat} {x0 : Int32} {w : MW} (h0 : x0 = (nI 28)) : mX d 81 0 [.int x0] [] w = mX d 81 224 [mJ] [] w := by
  refine Eq.trans (X_st f_81_0 rfl rfl) ?_
  refine Eq.trans (X_sw f_81_1 rfl (congrArg Value.int h0) rfl) ?_
  exact mX_mask rfl
theorem s_81_0_29 {d : Nat} {x0 : Int32} {w : MW} (h0 : x0 = (nI 29)) : mX d 81 0 [.int x0] [] w = mX d 81 227 [mJ] [] w := by
  refine Eq.trans (X_st f_81_0 rfl rfl) ?_
  refine Eq.trans (X_sw f_81_1 rfl (congrArg Value.int h0) rfl) ?_
  exact mX_mask rfl
theorem s_81_0_30 {d : Nat} {x0 : Int32} {w : MW} (h0 : x0 = (nI 30)) : mX d 81 0 [.int x0] [] w = mX d 81 230 [mJ] [] w := by
  refine Eq.trans (X_st f_81_0 rfl rfl) ?_
  refine Eq.trans (X_sw f_81_1 rfl (congrArg Value.int h0) rfl) ?_
  exact mX_mask rfl
theorem s_81_0_d {d : Nat} {x0 : Int32} {w : MW} (h0 : (x0).toInt < 0 ∨ 30 < (x0).toInt) : mX d 81 0 [.int x0] [] w = mX d 81 233 [mJ] [] w := by
  refine Eq.trans (X_st f_81_0 rfl rfl) ?_
  refine Eq.trans (X_swD f_81_1 h0 rfl) ?_
  exact mX_mask rfl
theorem e_81 {d : Nat} {x0 : Int32} {w : MW} : mK d 81 [.int x0] w = mX d 81 0 [.int x0] [] w := rfl
theorem b_81_140 {d : Nat} {w : MW} : mX d 81 140 [mJ] [] w = some (.inl (some (.ref 6)), w) := by
  refine Eq.trans (X_st f_81_140 rfl rfl) ?_
  exact X_ret f_81_142 rfl rfl
theorem b_81_143 {d : Nat} {w : MW} : mX d 81 143 [mJ] [] w = some (.inl (some (.ref 8)), w) := by
  refine Eq.trans (X_st f_81_143 rfl rfl) ?_
  exact X_ret f_81_145 rfl rfl
theorem b_81_146 {d : Nat} {w : MW} : mX d 81 146 [mJ] [] w = some (.inl (some (.ref 10)), w) := by
  refine Eq.trans (X_st f_81_146 rfl rfl) ?_
  exact X_ret f_81_148 rfl rfl
theorem b_81_149 {d : Nat} {w : MW} : mX d 81 149 [mJ] [] w = some (.inl (some (.ref 12)), w) := by
  refine Eq.trans (X_st f_81_149 rfl rfl) ?_
  exact X_ret f_81_151 rfl rfl
theorem b_81_152 {d : Nat} {w : MW} : mX d 81 152 [mJ] [] w = some (.inl (some (.ref 14)), w) := by
  refine Eq.trans (X_st f_81_152 rfl rfl) ?_
  exact X_ret f_81_154 rfl rfl
theorem b_81_155 {d : Nat} {w : MW} : mX d 81 155 [mJ] [] w = some (.inl (some (.ref 16)), w) := by
  refine Eq.trans (X_st f_81_155 rfl rfl) ?_
  exact X_ret f_81_157 rfl rfl
theorem b_81_158 {d : Nat} {w : MW} : mX d 81 158 [mJ] [] w = some (.inl (some (.ref 18)), w) := by
  refine Eq.trans (X_st f_81_158 rfl rfl) ?_
  exact X_ret f_81_160 rfl rfl
theorem b_81_161 {d : Nat} {w : MW} : mX d 81 161 [mJ] [] w = some (.inl (some (.ref 20)), w) := by
  refine Eq.trans (X_st f_81_161 rfl rfl) ?_
  exact X_ret f_81_163 rfl rfl
theorem b_81_164 {d : Nat} {w : MW} : mX d 81 164 [mJ] [] w = some (.inl (some (.ref 22)), w) := by
  refine Eq.trans (X_st f_81_164 rfl rfl) ?_
  exact X_ret f_81_166 rfl rfl
theorem b_81_167 {d : Nat} {w : MW} : mX d 81 167 [mJ] [] w = some (.inl (some (.ref 24)), w) := by
  refine Eq.trans (X_st f_81_167 rfl rfl) ?_
  exact X_ret f_81_169 rfl rfl
theorem b_81_170 {d : Nat} {w : MW} : mX d 81 170 [mJ] [] w = some (.inl (some (.ref 26)), w) := by
  refine Eq.trans (X_st f_81_170 rfl rfl) ?_
  exact X_ret f_81_172 rfl rfl
theorem b_81_173 {d : Nat} {w : MW} : mX d 81 173 [mJ] [] w = some (.inl (some (.ref 28)), w) := by
  refine Eq.trans (X_st f_81_173 rfl rfl) ?_
  exact X_ret f_81_175 rfl rfl
theorem b_81_176 {d : Nat} {w : MW} : mX d 81 176 [mJ] [] w = some (.inl (some (.ref 30)), w) := by
  refine Eq.trans (X_st f_81_176 rfl rfl) ?_
  exact X_ret f_81_178 rfl rfl
theorem b_81_179 {d : Nat} {w : MW} : mX d 81 179 [mJ] [] w = some (.inl (some (.ref 32)), w) := by
  refine Eq.trans (X_st f_81_179 rfl rfl) ?_
  exact X_ret f_81_181 rfl rfl
theorem b_81_182 {d : Nat} {w : MW} : mX d 81 182 [mJ] [] w = some (.inl (some (.ref 34)), w) := by
  refine Eq.trans (X_st f_81_182 rfl rfl) ?_
  exact X_ret f_81_184 rfl rfl
theorem b_81_185 {d : Nat} {w : MW} : mX d 81 185 [mJ] [] w = some (.inl (some (.ref 36)), w) := by
  refine Eq.trans (X_st f_81_185 rfl rfl) ?_
  exact X_ret f_81_187 rfl rfl
theorem b_81_188 {d : Nat} {w : MW} : mX d 81 188 [mJ] [] w = some (.inl (some (.ref 38)), w) := by
  refine Eq.trans (X_st f_81_188 rfl rfl) ?_
  exact X_ret f_81_190 rfl rfl
theorem b_81_191 {d : Nat} {w : MW} : mX d 81 191 [mJ] [] w = some (.inl (some (.ref 40)), w) := by
  refine Eq.trans (X_st f_81_191 rfl rfl) ?_
  exact X_ret f_81_193 rfl rfl
theorem b_81_194 {d : Nat} {w : MW} : mX d 81 194 [mJ] [] w = some (.inl (some (.ref 42)), w) := by
  refine Eq.trans (X_st f_81_194 rfl rfl) ?_
  exact X_ret f_81_196 rfl rfl
theorem b_81_197 {d : Nat} {w : MW} : mX d 81 197 [mJ] [] w = some (.inl (some (.ref 44)), w) := by
  refine Eq.trans (X_st f_81_197 rfl rfl) ?_
  exact X_ret f_81_199 rfl rfl
theorem b_81_200 {d : Nat} {w : MW} : mX d 81 200 [mJ] [] w = some (.inl (some (.ref 46)), w) := by
  refine Eq.trans (X_st f_81_200 rfl rfl) ?_
  exact X_ret f_81_202 rfl rfl
theorem b_81_203 {d : Nat} {w : MW} : mX d 81 203 [mJ] [] w = some (.inl (some (.ref 48)), w) := by
  refine Eq.trans (X_st f_81_203 rfl rfl) ?_
  exact X_ret f_81_205 rfl rfl
theorem b_81_206 {d : Nat} {w : MW} : mX d 81 206 [mJ] [] w = some (.inl (some (.ref 50)), w) := by
  refine Eq.trans (X_st f_81_206 rfl rfl) ?_
  exact X_ret f_81_208 rfl rfl
theorem b_81_209 {d : Nat} {w : MW} : mX d 81 209 [mJ] [] w = some (.inl (some (.ref 52)), w) := by
  refine Eq.trans (X_st f_81_209 rfl rfl) ?_
  exact X_ret f_81_211 rfl rfl
theorem b_81_212 {d : Nat} {w : MW} : mX d 81 212 [mJ] [] w = some (.inl (some (.ref 54)), w) := by
  refine Eq.trans (X_st f_81_212 rfl rfl) ?_
  exact X_ret f_81_214 rfl rfl
theorem b_81_215 {d : Nat} {w : MW} : mX d 81 215 [mJ] [] w = some (.inl (some (.ref 56)), w) := by
  refine Eq.trans (X_st f_81_215 rfl rfl) ?_
  exact X_ret f_81_217 rfl rfl
theorem b_81_218 {d : Nat} {w : MW} : mX d 81 218 [mJ] [] w = some (.inl (some (.ref 58)), w) := by
  refine Eq.trans (X_st f_81_218 rfl rfl) ?_
  exact X_ret f_81_220 rfl rfl
theorem b_81_221 {d : Nat} {w : MW} : mX d 81 221 [mJ] [] w = some (.inl (some (.ref 60)), w) := by
  refine Eq.trans (X_st f_81_221 rfl rfl) ?_
  exact X_ret f_81_223 rfl rfl
theorem b_81_224 {d : Nat} {w : MW} : mX d 81 224 [mJ] [] w = some (.inl (some (.ref 62)), w) := by
  refine Eq.trans (X_st f_81_224 rfl rfl) ?_
  exact X_ret f_81_226 rfl rfl
theorem b_81_227 {d : Nat} {w : MW} : mX d 81 227 [mJ] [] w = some (.inl (some (.ref 64)), w) := by
  refine Eq.trans (X_st f_81_227 rfl rfl) ?_
  exact X_ret f_81_229 rfl rfl
theorem b_81_230 {d : Nat} {w : MW} : mX d 81 230 [mJ] [] w = some (.inl (some (.ref 66)), w) := by
  refine Eq.trans (X_st f_81_230 rfl rfl) ?_
  exact X_ret f_81_232 rfl rfl
theorem b_81_233 {d : Nat} {w : MW} : mX d 81 233 [mJ] [] w = some (.inl (some (.ref 68)), w) := by
  refine Eq.trans (X_st f_81_233 rfl rfl) ?_
  exact X_ret f_81_235 rfl rfl
/-! BeeTurnpike$Tokens numberAt (II)I -/
theorem f_82_0 : mFetch 82 0 = some (.iconst 0, 1, []) := by decide +kernel
theorem f_82_1 : mFetch 82 1 = some (.istore_n 3, 1, []) := by decide +kernel
theorem f_82_2 : mFetch 82 2 = some (.iconst 0, 1, []) := by decide +kernel
theorem f_82_3 : mFetch 82 3 = some (.istore 4, 2, []) := by decide +kernel
theorem f_82_5 : mFetch 82 5 = some (.iload 4, 2, []) := by decide +kernel
theorem f_82_7 : mFetch 82 7 = some (.iload_n 2, 1, []) := by decide +kernel
theorem f_82_8 : mFetch 82 8 = some (.if_icmp .ge 29, 3, [37]) := by decide +kernel
theorem f_82_11 : mFetch 82 11 = some (.iload_n 3, 1, []) := by decide +kernel
theorem f_82_12 : mFetch 82 12 = some (.bipush 10, 2, []) := by decide +kernel
theorem f_82_14 : mFetch 82 14 = some (.imul, 1, []) := by decide +kernel
theorem f_82_15 : mFetch 82 15 = some (.aload_n 0, 1, []) := by decide +kernel
theorem f_82_16 : mFetch 82 16 = some (.getfield 27, 3, [7, 0, 0, 120]) := by decide +kernel
theorem f_82_19 : mFetch 82 19 = some (.iload_n 1, 1, []) := by decide +kernel
theorem f_82_20 : mFetch 82 20 = some (.iload 4, 2, []) := by decide +kernel
theorem f_82_22 : mFetch 82 22 = some (.iadd, 1, []) := by decide +kernel
theorem f_82_23 : mFetch 82 23 = some (.invokevirtual 72, 3, [57, 2, 2, 5, 1055, 1036, 1037]) := by decide +kernel
theorem f_82_26 : mFetch 82 26 = some (.bipush 48, 2, []) := by decide +kernel
theorem f_82_28 : mFetch 82 28 = some (.isub, 1, []) := by decide +kernel
theorem f_82_29 : mFetch 82 29 = some (.iadd, 1, []) := by decide +kernel
theorem f_82_30 : mFetch 82 30 = some (.istore_n 3, 1, []) := by decide +kernel
theorem f_82_31 : mFetch 82 31 = some (.iinc 4 1, 3, []) := by decide +kernel
theorem f_82_34 : mFetch 82 34 = some (.goto (-29), 3, [5]) := by decide +kernel
theorem f_82_37 : mFetch 82 37 = some (.iload_n 3, 1, []) := by decide +kernel
theorem f_82_38 : mFetch 82 38 = some (.ireturn, 1, [0]) := by decide +kernel
theorem b_82_0 {d : Nat} {a0 : Nat} {x1 : Int32} {x2 : Int32} {w : MW} : mX d 82 0 [.ref a0, .int x1, .int x2, mJ, mJ] [] w = mX d 82 5 [.ref a0, .int x1, .int x2, .int (nI 0), .int (nI 0)] [] w := by
  refine Eq.trans (X_iconst f_82_0 kc_i_0) ?_
  refine Eq.trans (X_istore_n (L' := [.ref a0, .int x1, .int x2, .int (nI 0), mJ]) f_82_1 (Nat.le_of_ble_eq_true rfl) rfl) ?_
  refine Eq.trans (X_iconst f_82_2 kc_i_0) ?_
  refine Eq.trans (X_istore (L' := [.ref a0, .int x1, .int x2, .int (nI 0), .int (nI 0)]) f_82_3 (Nat.le_of_ble_eq_true rfl) rfl) ?_
  exact mX_mask rfl
theorem e_82 {d : Nat} {a0 : Nat} {x1 : Int32} {x2 : Int32} {w : MW} : mK d 82 [.ref a0, .int x1, .int x2] w = mX d 82 0 [.ref a0, .int x1, .int x2, mJ, mJ] [] w := rfl
theorem b_82_5 {d : Nat} {a0 : Nat} {x1 : Int32} {x2 : Int32} {x3 : Int32} {x4 : Int32} {w : MW} : mX d 82 5 [.ref a0, .int x1, .int x2, .int x3, .int x4] [] w = (if x2 ≤ x4 then mX d 82 37 [mJ, mJ, mJ, .int x3, mJ] [] w else mX d 82 11 [.ref a0, .int x1, .int x2, .int x3, .int x4] [] w) := by
  refine Eq.trans (X_st f_82_5 rfl rfl) ?_
  refine Eq.trans (X_st f_82_7 rfl rfl) ?_
  refine Eq.trans (X_br f_82_8 rfl rfl) ?_
  exact mIte_eq (mX_mask rfl) (mX_mask rfl)
theorem b_82_11 {d : Nat} {a0 : Nat} {x1 : Int32} {x2 : Int32} {x3 : Int32} {x4 : Int32} {w : MW} (h0 : mTg w a0 = 7) (h1 : mR w a0 0 = some (gR w a0 0)) (h2 : mTg w (gR w a0 0) = 5) : mX (d + 1) 82 11 [.ref a0, .int x1, .int x2, .int x3, .int x4] [] w = mThen (mK d 57 [.ref (gR w a0 0), .int (x1 + x4)] w) (fun v w9 => mX (d + 1) 82 26 [.ref a0, .int x1, .int x2, mJ, .int x4] (v.toList ++ [.int (x3 * (nI 10))]) w9) := by
  refine Eq.trans (X_st f_82_11 rfl rfl) ?_
  refine Eq.trans (X_bipush f_82_12 kc_b_10) ?_
  refine Eq.trans (X_st f_82_14 rfl rfl) ?_
  refine Eq.trans (X_st f_82_15 rfl rfl) ?_
  refine Eq.trans (X_getR f_82_16 h0 rfl h1) ?_
  refine Eq.trans (X_st f_82_19 rfl rfl) ?_
  refine Eq.trans (X_st f_82_20 rfl rfl) ?_
  refine Eq.trans (X_st f_82_22 rfl rfl) ?_
  refine Eq.trans (X_call f_82_23 (by decide) rfl rfl rfl rfl rfl rfl (Nat.le_of_ble_eq_true rfl) (Nat.le_of_ble_eq_true rfl) (decide_eq_true h2) (Nat.le_of_ble_eq_true rfl)) ?_
  exact mThen_eq fun v w9 => mX_mask rfl
theorem b_82_26 {d : Nat} {a0 : Nat} {x1 : Int32} {x2 : Int32} {x4 : Int32} {y0 : Int32} {y1 : Int32} {w : MW} : mX d 82 26 [.ref a0, .int x1, .int x2, mJ, .int x4] [.int y0, .int y1] w = mX d 82 5 [.ref a0, .int x1, .int x2, .int (y1 + (y0 - (nI 48))), .int (x4 + (nI 1))] [] w := by
  refine Eq.trans (X_bipush f_82_26 kc_b_48) ?_
  refine Eq.trans (X_st f_82_28 rfl rfl) ?_
  refine Eq.trans (X_st f_82_29 rfl rfl) ?_
  refine Eq.trans (X_istore_n (L' := [.ref a0, .int x1, .int x2, .int (y1 + (y0 - (nI 48))), .int x4]) f_82_30 (Nat.le_of_ble_eq_true rfl) rfl) ?_
  refine Eq.trans (X_iinc f_82_31 kc_i_1 rfl rfl) ?_
  refine Eq.trans (X_st f_82_34 rfl rfl) ?_
  exact mX_mask rfl
theorem b_82_37 {d : Nat} {x3 : Int32} {w : MW} : mX d 82 37 [mJ, mJ, mJ, .int x3, mJ] [] w = some (.inl (some (.int x3)), w) := by
  refine Eq.trans (X_st f_82_37 rfl rfl) ?_
  exact X_ireturn f_82_38 rfl
/-! BeeTurnpike$Tokens sameText (II)Z -/
theorem f_83_0 : mFetch 83 0 = some (.aload_n 0, 1, []) := by decide +kernel
theorem f_83_1 : mFetch 83 1 = some (.getfield 18, 3, [7, 3, 0, 126]) := by decide +kernel
theorem f_83_4 : mFetch 83 4 = some (.iload_n 1, 1, []) := by decide +kernel
theorem f_83_5 : mFetch 83 5 = some (.invokestatic 165, 3, [123, 2, 1, 0, 88, 559]) := by decide +kernel
theorem f_83_8 : mFetch 83 8 = some (.istore_n 3, 1, []) := by decide +kernel
theorem f_83_9 : mFetch 83 9 = some (.iload_n 3, 1, []) := by decide +kernel
theorem f_83_10 : mFetch 83 10 = some (.aload_n 0, 1, []) := by decide +kernel
theorem f_83_11 : mFetch 83 11 = some (.getfield 18, 3, [7, 3, 0, 126]) := by decide +kernel
theorem f_83_14 : mFetch 83 14 = some (.iload_n 2, 1, []) := by decide +kernel
theorem f_83_15 : mFetch 83 15 = some (.invokestatic 165, 3, [123, 2, 1, 0, 88, 559]) := by decide +kernel
theorem f_83_18 : mFetch 83 18 = some (.if_icmp .eq 5, 3, [23]) := by decide +kernel
theorem f_83_21 : mFetch 83 21 = some (.iconst 0, 1, []) := by decide +kernel
theorem f_83_22 : mFetch 83 22 = some (.ireturn, 1, [2]) := by decide +kernel
theorem f_83_23 : mFetch 83 23 = some (.aload_n 0, 1, []) := by decide +kernel
theorem f_83_24 : mFetch 83 24 = some (.getfield 15, 3, [7, 2, 0, 124]) := by decide +kernel
theorem f_83_27 : mFetch 83 27 = some (.iload_n 1, 1, []) := by decide +kernel
theorem f_83_28 : mFetch 83 28 = some (.invokestatic 165, 3, [123, 2, 1, 0, 88, 559]) := by decide +kernel
theorem f_83_31 : mFetch 83 31 = some (.istore 4, 2, []) := by decide +kernel
theorem f_83_33 : mFetch 83 33 = some (.aload_n 0, 1, []) := by decide +kernel
theorem f_83_34 : mFetch 83 34 = some (.getfield 15, 3, [7, 2, 0, 124]) := by decide +kernel
theorem f_83_37 : mFetch 83 37 = some (.iload_n 2, 1, []) := by decide +kernel
theorem f_83_38 : mFetch 83 38 = some (.invokestatic 165, 3, [123, 2, 1, 0, 88, 559]) := by decide +kernel
theorem f_83_41 : mFetch 83 41 = some (.istore 5, 2, []) := by decide +kernel
theorem f_83_43 : mFetch 83 43 = some (.iconst 0, 1, []) := by decide +kernel
theorem f_83_44 : mFetch 83 44 = some (.istore 6, 2, []) := by decide +kernel
theorem f_83_46 : mFetch 83 46 = some (.iload 6, 2, []) := by decide +kernel
theorem f_83_48 : mFetch 83 48 = some (.iload_n 3, 1, []) := by decide +kernel
theorem f_83_49 : mFetch 83 49 = some (.if_icmp .ge 38, 3, [87]) := by decide +kernel
theorem f_83_52 : mFetch 83 52 = some (.aload_n 0, 1, []) := by decide +kernel
theorem f_83_53 : mFetch 83 53 = some (.getfield 27, 3, [7, 0, 0, 120]) := by decide +kernel
theorem f_83_56 : mFetch 83 56 = some (.iload 4, 2, []) := by decide +kernel
theorem f_83_58 : mFetch 83 58 = some (.iload 6, 2, []) := by decide +kernel
theorem f_83_60 : mFetch 83 60 = some (.iadd, 1, []) := by decide +kernel
theorem f_83_61 : mFetch 83 61 = some (.invokevirtual 72, 3, [57, 2, 2, 5, 1055, 1036, 1037]) := by decide +kernel
theorem f_83_64 : mFetch 83 64 = some (.aload_n 0, 1, []) := by decide +kernel
theorem f_83_65 : mFetch 83 65 = some (.getfield 27, 3, [7, 0, 0, 120]) := by decide +kernel
theorem f_83_68 : mFetch 83 68 = some (.iload 5, 2, []) := by decide +kernel
theorem f_83_70 : mFetch 83 70 = some (.iload 6, 2, []) := by decide +kernel
theorem f_83_72 : mFetch 83 72 = some (.iadd, 1, []) := by decide +kernel
theorem f_83_73 : mFetch 83 73 = some (.invokevirtual 72, 3, [57, 2, 2, 5, 1055, 1036, 1037]) := by decide +kernel
theorem f_83_76 : mFetch 83 76 = some (.if_icmp .eq 5, 3, [81]) := by decide +kernel
theorem f_83_79 : mFetch 83 79 = some (.iconst 0, 1, []) := by decide +kernel
theorem f_83_80 : mFetch 83 80 = some (.ireturn, 1, [2]) := by decide +kernel
theorem f_83_81 : mFetch 83 81 = some (.iinc 6 1, 3, []) := by decide +kernel
theorem f_83_84 : mFetch 83 84 = some (.goto (-38), 3, [46]) := by decide +kernel
theorem f_83_87 : mFetch 83 87 = some (.iconst 1, 1, []) := by decide +kernel
theorem f_83_88 : mFetch 83 88 = some (.ireturn, 1, [2]) := by decide +kernel
theorem b_83_0 {d : Nat} {a0 : Nat} {x1 : Int32} {x2 : Int32} {w : MW} (h0 : mTg w a0 = 7) (h1 : mR w a0 3 = some (gR w a0 3)) : mX (d + 1) 83 0 [.ref a0, .int x1, .int x2, mJ, mJ, mJ, mJ] [] w = mThen (mK d 123 [.ref (gR w a0 3), .int x1] w) (fun v w9 => mX (d + 1) 83 8 [.ref a0, .int x1, .int x2, mJ, mJ, mJ, mJ] (v.toList ++ []) w9) := by
  refine Eq.trans (X_st f_83_0 rfl rfl) ?_
  refine Eq.trans (X_getR f_83_1 h0 rfl h1) ?_
  refine Eq.trans (X_st f_83_4 rfl rfl) ?_
  refine Eq.trans (X_call f_83_5 (by decide) rfl rfl rfl rfl rfl rfl (Nat.le_of_ble_eq_true rfl) (Nat.le_of_ble_eq_true rfl) rfl (Nat.le_of_ble_eq_true rfl)) ?_
  exact mThen_eq fun v w9 => mX_mask rfl
theorem e_83 {d : Nat} {a0 : Nat} {x1 : Int32} {x2 : Int32} {w : MW} : mK d 83 [.ref a0, .int x1, .int x2] w = mX d 83 0 [.ref a0, .int x1, .int x2, mJ, mJ, mJ, mJ] [] w := rfl
theorem b_83_8 {d : Nat} {a0 : Nat} {x1 : Int32} {x2 : Int32} {y0 : Int32} {w : MW} (h0 : mTg w a0 = 7) (h1 : mR w a0 3 = some (gR w a0 3)) : mX (d + 1) 83 8 [.ref a0, .int x1, .int x2, mJ, mJ, mJ, mJ] [.int y0] w = mThen (mK d 123 [.ref (gR w a0 3), .int x2] w) (fun v w9 => mX (d + 1) 83 18 [.ref a0, .int x1, .int x2, .int y0, mJ, mJ, mJ] (v.toList ++ [.int y0]) w9) := by
  refine Eq.trans (X_istore_n (L' := [.ref a0, .int x1, .int x2, .int y0, mJ, mJ, mJ]) f_83_8 (Nat.le_of_ble_eq_true rfl) rfl) ?_
  refine Eq.trans (X_st f_83_9 rfl rfl) ?_
  refine Eq.trans (X_st f_83_10 rfl rfl) ?_
  refine Eq.trans (X_getR f_83_11 h0 rfl h1) ?_
  refine Eq.trans (X_st f_83_14 rfl rfl) ?_
  refine Eq.trans (X_call f_83_15 (by decide) rfl rfl rfl rfl rfl rfl (Nat.le_of_ble_eq_true rfl) (Nat.le_of_ble_eq_true rfl) rfl (Nat.le_of_ble_eq_true rfl)) ?_
  exact mThen_eq fun v w9 => mX_mask rfl
theorem b_83_18 {d : Nat} {a0 : Nat} {x1 : Int32} {x2 : Int32} {x3 : Int32} {y0 : Int32} {y1 : Int32} {w : MW} : mX d 83 18 [.ref a0, .int x1, .int x2, .int x3, mJ, mJ, mJ] [.int y0, .int y1] w = (if y1 = y0 then mX d 83 23 [.ref a0, .int x1, .int x2, .int x3, mJ, mJ, mJ] [] w else mX d 83 21 [mJ, mJ, mJ, mJ, mJ, mJ, mJ] [] w) := by
  refine Eq.trans (X_br f_83_18 rfl rfl) ?_
  exact mIte_eq (mX_mask rfl) (mX_mask rfl)
theorem b_83_21 {d : Nat} {w : MW} : mX d 83 21 [mJ, mJ, mJ, mJ, mJ, mJ, mJ] [] w = some (.inl (some (.int (nI 0))), w) := by
  refine Eq.trans (X_iconst f_83_21 kc_i_0) ?_
  exact X_ireturn f_83_22 rfl
theorem b_83_23 {d : Nat} {a0 : Nat} {x1 : Int32} {x2 : Int32} {x3 : Int32} {w : MW} (h0 : mTg w a0 = 7) (h1 : mR w a0 2 = some (gR w a0 2)) : mX (d + 1) 83 23 [.ref a0, .int x1, .int x2, .int x3, mJ, mJ, mJ] [] w = mThen (mK d 123 [.ref (gR w a0 2), .int x1] w) (fun v w9 => mX (d + 1) 83 31 [.ref a0, mJ, .int x2, .int x3, mJ, mJ, mJ] (v.toList ++ []) w9) := by
  refine Eq.trans (X_st f_83_23 rfl rfl) ?_
  refine Eq.trans (X_getR f_83_24 h0 rfl h1) ?_
  refine Eq.trans (X_st f_83_27 rfl rfl) ?_
  refine Eq.trans (X_call f_83_28 (by decide) rfl rfl rfl rfl rfl rfl (Nat.le_of_ble_eq_true rfl) (Nat.le_of_ble_eq_true rfl) rfl (Nat.le_of_ble_eq_true rfl)) ?_
  exact mThen_eq fun v w9 => mX_mask rfl
theorem b_83_31 {d : Nat} {a0 : Nat} {x2 : Int32} {x3 : Int32} {y0 : Int32} {w : MW} (h0 : mTg w a0 = 7) (h1 : mR w a0 2 = some (gR w a0 2)) : mX (d + 1) 83 31 [.ref a0, mJ, .int x2, .int x3, mJ, mJ, mJ] [.int y0] w = mThen (mK d 123 [.ref (gR w a0 2), .int x2] w) (fun v w9 => mX (d + 1) 83 41 [.ref a0, mJ, mJ, .int x3, .int y0, mJ, mJ] (v.toList ++ []) w9) := by
  refine Eq.trans (X_istore (L' := [.ref a0, mJ, .int x2, .int x3, .int y0, mJ, mJ]) f_83_31 (Nat.le_of_ble_eq_true rfl) rfl) ?_
  refine Eq.trans (X_st f_83_33 rfl rfl) ?_
  refine Eq.trans (X_getR f_83_34 h0 rfl h1) ?_
  refine Eq.trans (X_st f_83_37 rfl rfl) ?_
  refine Eq.trans (X_call f_83_38 (by decide) rfl rfl rfl rfl rfl rfl (Nat.le_of_ble_eq_true rfl) (Nat.le_of_ble_eq_true rfl) rfl (Nat.le_of_ble_eq_true rfl)) ?_
  exact mThen_eq fun v w9 => mX_mask rfl
theorem b_83_41 {d : Nat} {a0 : Nat} {x3 : Int32} {x4 : Int32} {y0 : Int32} {w : MW} : mX d 83 41 [.ref a0, mJ, mJ, .int x3, .int x4, mJ, mJ] [.int y0] w = mX d 83 46 [.ref a0, mJ, mJ, .int x3, .int x4, .int y0, .int (nI 0)] [] w := by
  refine Eq.trans (X_istore (L' := [.ref a0, mJ, mJ, .int x3, .int x4, .int y0, mJ]) f_83_41 (Nat.le_of_ble_eq_true rfl) rfl) ?_
  refine Eq.trans (X_iconst f_83_43 kc_i_0) ?_
  refine Eq.trans (X_istore (L' := [.ref a0, mJ, mJ, .int x3, .int x4, .int y0, .int (nI 0)]) f_83_44 (Nat.le_of_ble_eq_true rfl) rfl) ?_
  exact mX_mask rfl
theorem b_83_46 {d : Nat} {a0 : Nat} {x3 : Int32} {x4 : Int32} {x5 : Int32} {x6 : Int32} {w : MW} : mX d 83 46 [.ref a0, mJ, mJ, .int x3, .int x4, .int x5, .int x6] [] w = (if x3 ≤ x6 then mX d 83 87 [mJ, mJ, mJ, mJ, mJ, mJ, mJ] [] w else mX d 83 52 [.ref a0, mJ, mJ, .int x3, .int x4, .int x5, .int x6] [] w) := by
  refine Eq.trans (X_st f_83_46 rfl rfl) ?_
  refine Eq.trans (X_st f_83_48 rfl rfl) ?_
  refine Eq.trans (X_br f_83_49 rfl rfl) ?_
  exact mIte_eq (mX_mask rfl) (mX_mask rfl)
theorem b_83_52 {d : Nat} {a0 : Nat} {x3 : Int32} {x4 : Int32} {x5 : Int32} {x6 : Int32} {w : MW} (h0 : mTg w a0 = 7) (h1 : mR w a0 0 = some (gR w a0 0)) (h2 : mTg w (gR w a0 0) = 5) : mX (d + 1) 83 52 [.ref a0, mJ, mJ, .int x3, .int x4, .int x5, .int x6] [] w = mThen (mK d 57 [.ref (gR w a0 0), .int (x4 + x6)] w) (fun v w9 => mX (d + 1) 83 64 [.ref a0, mJ, mJ, .int x3, .int x4, .int x5, .int x6] (v.toList ++ []) w9) := by
  refine Eq.trans (X_st f_83_52 rfl rfl) ?_
  refine Eq.trans (X_getR f_83_53 h0 rfl h1) ?_
  refine Eq.trans (X_st f_83_56 rfl rfl) ?_
  refine Eq.trans (X_st f_83_58 rfl rfl) ?_
  refine Eq.trans (X_st f_83_60 rfl rfl) ?_
  refine Eq.trans (X_call f_83_61 (by decide) rfl rfl rfl rfl rfl rfl (Nat.le_of_ble_eq_true rfl) (Nat.le_of_ble_eq_true rfl) (decide_eq_true h2) (Nat.le_of_ble_eq_true rfl)) ?_
  exact mThen_eq fun v w9 => mX_mask rfl
theorem b_83_64 {d : Nat} {a0 : Nat} {x3 : Int32} {x4 : Int32} {x5 : Int32} {x6 : Int32} {y0 : Int32} {w : MW} (h0 : mTg w a0 = 7) (h1 : mR w a0 0 = some (gR w a0 0)) (h2 : mTg w (gR w a0 0) = 5) : mX (d + 1) 83 64 [.ref a0, mJ, mJ, .int x3, .int x4, .int x5, .int x6] [.int y0] w = mThen (mK d 57 [.ref (gR w a0 0), .int (x5 + x6)] w) (fun v w9 => mX (d + 1) 83 76 [.ref a0, mJ, mJ, .int x3, .int x4, .int x5, .int x6] (v.toList ++ [.int y0]) w9) := by
  refine Eq.trans (X_st f_83_64 rfl rfl) ?_
  refine Eq.trans (X_getR f_83_65 h0 rfl h1) ?_
  refine Eq.trans (X_st f_83_68 rfl rfl) ?_
  refine Eq.trans (X_st f_83_70 rfl rfl) ?_
  refine Eq.trans (X_st f_83_72 rfl rfl) ?_
  refine Eq.trans (X_call f_83_73 (by decide) rfl rfl rfl rfl rfl rfl (Nat.le_of_ble_eq_true rfl) (Nat.le_of_ble_eq_true rfl) (decide_eq_true h2) (Nat.le_of_ble_eq_true rfl)) ?_
  exact mThen_eq fun v w9 => mX_mask rfl
theorem b_83_76 {d : Nat} {a0 : Nat} {x3 : Int32} {x4 : Int32} {x5 : Int32} {x6 : Int32} {y0 : Int32} {y1 : Int32} {w : MW} : mX d 83 76 [.ref a0, mJ, mJ, .int x3, .int x4, .int x5, .int x6] [.int y0, .int y1] w = (if y1 = y0 then mX d 83 81 [.ref a0, mJ, mJ, .int x3, .int x4, .int x5, .int x6] [] w else mX d 83 79 [mJ, mJ, mJ, mJ, mJ, mJ, mJ] [] w) := by
  refine Eq.trans (X_br f_83_76 rfl rfl) ?_
  exact mIte_eq (mX_mask rfl) (mX_mask rfl)
theorem b_83_79 {d : Nat} {w : MW} : mX d 83 79 [mJ, mJ, mJ, mJ, mJ, mJ, mJ] [] w = some (.inl (some (.int (nI 0))), w) := by
  refine Eq.trans (X_iconst f_83_79 kc_i_0) ?_
  exact X_ireturn f_83_80 rfl
theorem b_83_81 {d : Nat} {a0 : Nat} {x3 : Int32} {x4 : Int32} {x5 : Int32} {x6 : Int32} {w : MW} : mX d 83 81 [.ref a0, mJ, mJ, .int x3, .int x4, .int x5, .int x6] [] w = mX d 83 46 [.ref a0, mJ, mJ, .int x3, .int x4, .int x5, .int (x6 + (nI 1))] [] w := by
  refine Eq.trans (X_iinc f_83_81 kc_i_1 rfl rfl) ?_
  refine Eq.trans (X_st f_83_84 rfl rfl) ?_
  exact mX_mask rfl
theorem b_83_87 {d : Nat} {w : MW} : mX d 83 87 [mJ, mJ, mJ, mJ, mJ, mJ, mJ] [] w = some (.inl (some (.int (nI 1))), w) := by
  refine Eq.trans (X_iconst f_83_87 kc_i_1) ?_
  exact X_ireturn f_83_88 rfl
/-! BeeTurnpike$Told <init> ()V -/
theorem f_84_0 : mFetch 84 0 = some (.aload_n 0, 1, []) := by decide +kernel
theorem f_84_1 : mFetch 84 1 = some (.invokespecial 3, 3, [1002, 156]) := by decide +kernel
theorem f_84_4 : mFetch 84 4 = some (.aload_n 0, 1, []) := by decide +kernel
theorem f_84_5 : mFetch 84 5 = some (.bipush 6, 2, []) := by decide +kernel
theorem f_84_7 : mFetch 84 7 = some (.newarray .int, 2, [50]) := by decide +kernel
theorem f_84_9 : mFetch 84 9 = some (.putfield 9, 3, [8, 0, 0, 177]) := by decide +kernel
theorem f_84_12 : mFetch 84 12 = some (.aload_n 0, 1, []) := by decide +kernel
theorem f_84_13 : mFetch 84 13 = some (.iconst 5, 1, []) := by decide +kernel
theorem f_84_14 : mFetch 84 14 = some (.newarray .int, 2, [50]) := by decide +kernel
theorem f_84_16 : mFetch 84 16 = some (.putfield 15, 3, [8, 1, 0, 179]) := by decide +kernel
theorem f_84_19 : mFetch 84 19 = some (.aload_n 0, 1, []) := by decide +kernel
theorem f_84_20 : mFetch 84 20 = some (.bipush 10, 2, []) := by decide +kernel
theorem f_84_22 : mFetch 84 22 = some (.newarray .int, 2, [50]) := by decide +kernel
theorem f_84_24 : mFetch 84 24 = some (.putfield 18, 3, [8, 2, 0, 183]) := by decide +kernel
theorem f_84_27 : mFetch 84 27 = some (.aload_n 0, 1, []) := by decide +kernel
theorem f_84_28 : mFetch 84 28 = some (.bipush 10, 2, []) := by decide +kernel
theorem f_84_30 : mFetch 84 30 = some (.newarray .int, 2, [50]) := by decide +kernel
theorem f_84_32 : mFetch 84 32 = some (.putfield 21, 3, [8, 3, 0, 187]) := by decide +kernel
theorem f_84_35 : mFetch 84 35 = some (.aload_n 0, 1, []) := by decide +kernel
theorem f_84_36 : mFetch 84 36 = some (.bipush 10, 2, []) := by decide +kernel
theorem f_84_38 : mFetch 84 38 = some (.newarray .int, 2, [50]) := by decide +kernel
theorem f_84_40 : mFetch 84 40 = some (.putfield 24, 3, [8, 4, 0, 190]) := by decide +kernel
theorem f_84_43 : mFetch 84 43 = some (.aload_n 0, 1, []) := by decide +kernel
theorem f_84_44 : mFetch 84 44 = some (.bipush 12, 2, []) := by decide +kernel
theorem f_84_46 : mFetch 84 46 = some (.newarray .int, 2, [50]) := by decide +kernel
theorem f_84_48 : mFetch 84 48 = some (.putfield 27, 3, [8, 5, 0, 193]) := by decide +kernel
theorem f_84_51 : mFetch 84 51 = some (.aload_n 0, 1, []) := by decide +kernel
theorem f_84_52 : mFetch 84 52 = some (.bipush 48, 2, []) := by decide +kernel
theorem f_84_54 : mFetch 84 54 = some (.newarray .int, 2, [50]) := by decide +kernel
theorem f_84_56 : mFetch 84 56 = some (.putfield 30, 3, [8, 6, 0, 197]) := by decide +kernel
theorem f_84_59 : mFetch 84 59 = some (.aload_n 0, 1, []) := by decide +kernel
theorem f_84_60 : mFetch 84 60 = some (.bipush 12, 2, []) := by decide +kernel
theorem f_84_62 : mFetch 84 62 = some (.newarray .int, 2, [50]) := by decide +kernel
theorem f_84_64 : mFetch 84 64 = some (.putfield 33, 3, [8, 7, 0, 199]) := by decide +kernel
theorem f_84_67 : mFetch 84 67 = some (.aload_n 0, 1, []) := by decide +kernel
theorem f_84_68 : mFetch 84 68 = some (.bipush 6, 2, []) := by decide +kernel
theorem f_84_70 : mFetch 84 70 = some (.newarray .int, 2, [50]) := by decide +kernel
theorem f_84_72 : mFetch 84 72 = some (.putfield 36, 3, [8, 8, 0, 200]) := by decide +kernel
theorem f_84_75 : mFetch 84 75 = some (.aload_n 0, 1, []) := by decide +kernel
theorem f_84_76 : mFetch 84 76 = some (.bipush 30, 2, []) := by decide +kernel
theorem f_84_78 : mFetch 84 78 = some (.newarray .int, 2, [50]) := by decide +kernel
theorem f_84_80 : mFetch 84 80 = some (.putfield 39, 3, [8, 9, 0, 203]) := by decide +kernel
theorem f_84_83 : mFetch 84 83 = some (.aload_n 0, 1, []) := by decide +kernel
theorem f_84_84 : mFetch 84 84 = some (.iconst 5, 1, []) := by decide +kernel
theorem f_84_85 : mFetch 84 85 = some (.newarray .int, 2, [50]) := by decide +kernel
theorem f_84_87 : mFetch 84 87 = some (.putfield 42, 3, [8, 10, 0, 206]) := by decide +kernel
theorem f_84_90 : mFetch 84 90 = some (.aload_n 0, 1, []) := by decide +kernel
theorem f_84_91 : mFetch 84 91 = some (.iconst 5, 1, []) := by decide +kernel
theorem f_84_92 : mFetch 84 92 = some (.newarray .int, 2, [50]) := by decide +kernel
theorem f_84_94 : mFetch 84 94 = some (.putfield 45, 3, [8, 11, 0, 209]) := by decide +kernel
theorem f_84_97 : mFetch 84 97 = some (.aload_n 0, 1, []) := by decide +kernel
theorem f_84_98 : mFetch 84 98 = some (.iconst 5, 1, []) := by decide +kernel
theorem f_84_99 : mFetch 84 99 = some (.newarray .int, 2, [50]) := by decide +kernel
theorem f_84_101 : mFetch 84 101 = some (.putfield 48, 3, [8, 12, 0, 212]) := by decide +kernel
theorem f_84_104 : mFetch 84 104 = some (.aload_n 0, 1, []) := by decide +kernel
theorem f_84_105 : mFetch 84 105 = some (.bipush 40, 2, []) := by decide +kernel
theorem f_84_107 : mFetch 84 107 = some (.newarray .int, 2, [50]) := by decide +kernel
theorem f_84_109 : mFetch 84 109 = some (.putfield 51, 3, [8, 13, 0, 215]) := by decide +kernel
theorem f_84_112 : mFetch 84 112 = some (.aload_n 0, 1, []) := by decide +kernel
theorem f_84_113 : mFetch 84 113 = some (.bipush 20, 2, []) := by decide +kernel
theorem f_84_115 : mFetch 84 115 = some (.newarray .int, 2, [50]) := by decide +kernel
theorem f_84_117 : mFetch 84 117 = some (.putfield 54, 3, [8, 14, 0, 218]) := by decide +kernel
theorem f_84_120 : mFetch 84 120 = some (.aload_n 0, 1, []) := by decide +kernel
theorem f_84_121 : mFetch 84 121 = some (.bipush 20, 2, []) := by decide +kernel
theorem f_84_123 : mFetch 84 123 = some (.newarray .int, 2, [50]) := by decide +kernel
theorem f_84_125 : mFetch 84 125 = some (.putfield 57, 3, [8, 15, 0, 221]) := by decide +kernel
theorem f_84_128 : mFetch 84 128 = some (.aload_n 0, 1, []) := by decide +kernel
theorem f_84_129 : mFetch 84 129 = some (.bipush 20, 2, []) := by decide +kernel
theorem f_84_131 : mFetch 84 131 = some (.newarray .int, 2, [50]) := by decide +kernel
theorem f_84_133 : mFetch 84 133 = some (.putfield 60, 3, [8, 16, 0, 224]) := by decide +kernel
theorem f_84_136 : mFetch 84 136 = some (.aload_n 0, 1, []) := by decide +kernel
theorem f_84_137 : mFetch 84 137 = some (.new 63, 3, [1, 157]) := by decide +kernel
theorem f_84_140 : mFetch 84 140 = some (.dup, 1, []) := by decide +kernel
theorem f_84_141 : mFetch 84 141 = some (.invokespecial 65, 3, [29, 1, 6, 0, 89, 160]) := by decide +kernel
theorem f_84_144 : mFetch 84 144 = some (.putfield 66, 3, [8, 17, 0, 228]) := by decide +kernel
theorem f_84_147 : mFetch 84 147 = some (.return_, 1, []) := by decide +kernel
theorem b_84_0 {d : Nat} {a0 : Nat} {w : MW} (h0 : mE ≤ a0) (h1 : mTg (wN w 50 6 6) a0 = 8) (h2 : mTg (wN (wR (wN w 50 6 6) a0 0 (some (mSz w))) 50 5 5) a0 = 8) : mX d 84 0 [.ref a0] [] w = mX d 84 24 [.ref a0] [.ref (mSz (wR (wN (wR (wN w 50 6 6) a0 0 (some (mSz w))) 50 5 5) a0 1 (some (mSz (wR (wN w 50 6 6) a0 0 (some (mSz w))))))), .ref a0] (wN (wR (wN (wR (wN w 50 6 6) a0 0 (some (mSz w))) 50 5 5) a0 1 (some (mSz (wR (wN w 50 6 6) a0 0 (some (mSz w)))))) 50 10 10) := by
  refine Eq.trans (X_st f_84_0 rfl rfl) ?_
  refine Eq.trans (X_st f_84_1 rfl (if_pos ⟨h0, Nat.le_of_ble_eq_true rfl⟩)) ?_
  refine Eq.trans (X_st f_84_4 rfl rfl) ?_
  refine Eq.trans (X_bipush f_84_5 kc_b_6) ?_
  refine Eq.trans (X_newa f_84_7 kn_6 kl_6 (Nat.le_of_ble_eq_true rfl)) ?_
  refine Eq.trans (X_putR f_84_9 h1 h0 rfl) ?_
  refine Eq.trans (X_st f_84_12 rfl rfl) ?_
  refine Eq.trans (X_iconst f_84_13 kc_i_5) ?_
  refine Eq.trans (X_newa f_84_14 kn_5 kl_5 (Nat.le_of_ble_eq_true rfl)) ?_
  refine Eq.trans (X_putR f_84_16 h2 h0 rfl) ?_
  refine Eq.trans (X_st f_84_19 rfl rfl) ?_
  refine Eq.trans (X_bipush f_84_20 kc_b_10) ?_
  refine Eq.trans (X_newa f_84_22 kn_10 kl_10 (Nat.le_of_ble_eq_true rfl)) ?_
  exact mX_mask rfl
theorem e_84 {d : Nat} {a0 : Nat} {w : MW} : mK d 84 [.ref a0] w = mX d 84 0 [.ref a0] [] w := rfl
theorem b_84_24 {d : Nat} {a0 : Nat} {b0 : Nat} {b1 : Nat} {w : MW} (h0 : mTg w b1 = 8) (h1 : mE ≤ b1) (h2 : mTg (wN (wR w b1 2 (some b0)) 50 10 10) a0 = 8) (h3 : mE ≤ a0) (h4 : mTg (wN (wR (wN (wR w b1 2 (some b0)) 50 10 10) a0 3 (some (mSz (wR w b1 2 (some b0))))) 50 10 10) a0 = 8) : mX d 84 24 [.ref a0] [.ref b0, .ref b1] w = mX d 84 43 [.ref a0] [] (wR (wN (wR (wN (wR w b1 2 (some b0)) 50 10 10) a0 3 (some (mSz (wR w b1 2 (some b0))))) 50 10 10) a0 4 (some (mSz (wR (wN (wR w b1 2 (some b0)) 50 10 10) a0 3 (some (mSz (wR w b1 2 (some b0)))))))) := by
  refine Eq.trans (X_putR f_84_24 h0 h1 rfl) ?_
  refine Eq.trans (X_st f_84_27 rfl rfl) ?_
  refine Eq.trans (X_bipush f_84_28 kc_b_10) ?_
  refine Eq.trans (X_newa f_84_30 kn_10 kl_10 (Nat.le_of_ble_eq_true rfl)) ?_
  refine Eq.trans (X_putR f_84_32 h2 h3 rfl) ?_
  refine Eq.trans (X_st f_84_35 rfl rfl) ?_
  refine Eq.trans (X_bipush f_84_36 kc_b_10) ?_
  refine Eq.trans (X_newa f_84_38 kn_10 kl_10 (Nat.le_of_ble_eq_true rfl)) ?_
  refine Eq.trans (X_putR f_84_40 h4 h3 rfl) ?_
  exact mX_mask rfl
theorem b_84_43 {d : Nat} {a0 : Nat} {w : MW} (h0 : mTg (wN w 50 12 12) a0 = 8) (h1 : mE ≤ a0) (h2 : mTg (wN (wR (wN w 50 12 12) a0 5 (some (mSz w))) 50 48 48) a0 = 8) : mX d 84 43 [.ref a0] [] w = mX d 84 64 [.ref a0] [.ref (mSz (wR (wN (wR (wN w 50 12 12) a0 5 (some (mSz w))) 50 48 48) a0 6 (some (mSz (wR (wN w 50 12 12) a0 5 (some (mSz w))))))), .ref a0] (wN (wR (wN (wR (wN w 50 12 12) a0 5 (some (mSz w))) 50 48 48) a0 6 (some (mSz (wR (wN w 50 12 12) a0 5 (some (mSz w)))))) 50 12 12) := by
  refine Eq.trans (X_st f_84_43 rfl rfl) ?_
  refine Eq.trans (X_bipush f_84_44 kc_b_12) ?_
  refine Eq.trans (X_newa f_84_46 kn_12 kl_12 (Nat.le_of_ble_eq_true rfl)) ?_
  refine Eq.trans (X_putR f_84_48 h0 h1 rfl) ?_
  refine Eq.trans (X_st f_84_51 rfl rfl) ?_
  refine Eq.trans (X_bipush f_84_52 kc_b_48) ?_
  refine Eq.trans (X_newa f_84_54 kn_48 kl_48 (Nat.le_of_ble_eq_true rfl)) ?_
  refine Eq.trans (X_putR f_84_56 h2 h1 rfl) ?_
  refine Eq.trans (X_st f_84_59 rfl rfl) ?_
  refine Eq.trans (X_bipush f_84_60 kc_b_12) ?_
  refine Eq.trans (X_newa f_84_62 kn_12 kl_12 (Nat.le_of_ble_eq_true rfl)) ?_
  exact mX_mask rfl
theorem b_84_64 {d : Nat} {a0 : Nat} {b0 : Nat} {b1 : Nat} {w : MW} (h0 : mTg w b1 = 8) (h1 : mE ≤ b1) (h2 : mTg (wN (wR w b1 7 (some b0)) 50 6 6) a0 = 8) (h3 : mE ≤ a0) (h4 : mTg (wN (wR (wN (wR w b1 7 (some b0)) 50 6 6) a0 8 (some (mSz (wR w b1 7 (some b0))))) 50 30 30) a0 = 8) : mX d 84 64 [.ref a0] [.ref b0, .ref b1] w = mX d 84 83 [.ref a0] [] (wR (wN (wR (wN (wR w b1 7 (some b0)) 50 6 6) a0 8 (some (mSz (wR w b1 7 (some b0))))) 50 30 30) a0 9 (some (mSz (wR (wN (wR w b1 7 (some b0)) 50 6 6) a0 8 (some (mSz (wR w b1 7 (some b0)))))))) := by
  refine Eq.trans (X_putR f_84_64 h0 h1 rfl) ?_
  refine Eq.trans (X_st f_84_67 rfl rfl) ?_
  refine Eq.trans (X_bipush f_84_68 kc_b_6) ?_
  refine Eq.trans (X_newa f_84_70 kn_6 kl_6 (Nat.le_of_ble_eq_true rfl)) ?_
  refine Eq.trans (X_putR f_84_72 h2 h3 rfl) ?_
  refine Eq.trans (X_st f_84_75 rfl rfl) ?_
  refine Eq.trans (X_bipush f_84_76 kc_b_30) ?_
  refine Eq.trans (X_newa f_84_78 kn_30 kl_30 (Nat.le_of_ble_eq_true rfl)) ?_
  refine Eq.trans (X_putR f_84_80 h4 h3 rfl) ?_
  exact mX_mask rfl
theorem b_84_83 {d : Nat} {a0 : Nat} {w : MW} (h0 : mTg (wN w 50 5 5) a0 = 8) (h1 : mE ≤ a0) (h2 : mTg (wN (wR (wN w 50 5 5) a0 10 (some (mSz w))) 50 5 5) a0 = 8) : mX d 84 83 [.ref a0] [] w = mX d 84 101 [.ref a0] [.ref (mSz (wR (wN (wR (wN w 50 5 5) a0 10 (some (mSz w))) 50 5 5) a0 11 (some (mSz (wR (wN w 50 5 5) a0 10 (some (mSz w))))))), .ref a0] (wN (wR (wN (wR (wN w 50 5 5) a0 10 (some (mSz w))) 50 5 5) a0 11 (some (mSz (wR (wN w 50 5 5) a0 10 (some (mSz w)))))) 50 5 5) := by
  refine Eq.trans (X_st f_84_83 rfl rfl) ?_
  refine Eq.trans (X_iconst f_84_84 kc_i_5) ?_
  refine Eq.trans (X_newa f_84_85 kn_5 kl_5 (Nat.le_of_ble_eq_true rfl)) ?_
  refine Eq.trans (X_putR f_84_87 h0 h1 rfl) ?_
  refine Eq.trans (X_st f_84_90 rfl rfl) ?_
  refine Eq.trans (X_iconst f_84_91 kc_i_5) ?_
  refine Eq.trans (X_newa f_84_92 kn_5 kl_5 (Nat.le_of_ble_eq_true rfl)) ?_
  refine Eq.trans (X_putR f_84_94 h2 h1 rfl) ?_
  refine Eq.trans (X_st f_84_97 rfl rfl) ?_
  refine Eq.trans (X_iconst f_84_98 kc_i_5) ?_
  refine Eq.trans (X_newa f_84_99 kn_5 kl_5 (Nat.le_of_ble_eq_true rfl)) ?_
  exact mX_mask rfl
theorem b_84_101 {d : Nat} {a0 : Nat} {b0 : Nat} {b1 : Nat} {w : MW} (h0 : mTg w b1 = 8) (h1 : mE ≤ b1) (h2 : mTg (wN (wR w b1 12 (some b0)) 50 40 40) a0 = 8) (h3 : mE ≤ a0) (h4 : mTg (wN (wR (wN (wR w b1 12 (some b0)) 50 40 40) a0 13 (some (mSz (wR w b1 12 (some b0))))) 50 20 20) a0 = 8) : mX d 84 101 [.ref a0] [.ref b0, .ref b1] w = mX d 84 120 [.ref a0] [] (wR (wN (wR (wN (wR w b1 12 (some b0)) 50 40 40) a0 13 (some (mSz (wR w b1 12 (some b0))))) 50 20 20) a0 14 (some (mSz (wR (wN (wR w b1 12 (some b0)) 50 40 40) a0 13 (some (mSz (wR w b1 12 (some b0)))))))) := by
  refine Eq.trans (X_putR f_84_101 h0 h1 rfl) ?_
  refine Eq.trans (X_st f_84_104 rfl rfl) ?_
  refine Eq.trans (X_bipush f_84_105 kc_b_40) ?_
  refine Eq.trans (X_newa f_84_107 kn_40 kl_40 (Nat.le_of_ble_eq_true rfl)) ?_
  refine Eq.trans (X_putR f_84_109 h2 h3 rfl) ?_
  refine Eq.trans (X_st f_84_112 rfl rfl) ?_
  refine Eq.trans (X_bipush f_84_113 kc_b_20) ?_
  refine Eq.trans (X_newa f_84_115 kn_20 kl_20 (Nat.le_of_ble_eq_true rfl)) ?_
  refine Eq.trans (X_putR f_84_117 h4 h3 rfl) ?_
  exact mX_mask rfl
theorem b_84_120 {d : Nat} {a0 : Nat} {w : MW} (h0 : mTg (wN w 50 20 20) a0 = 8) (h1 : mE ≤ a0) (h2 : mTg (wN (wR (wN w 50 20 20) a0 15 (some (mSz w))) 50 20 20) a0 = 8) : mX d 84 120 [.ref a0] [] w = mX d 84 140 [mJ] [.ref (mSz (wR (wN (wR (wN w 50 20 20) a0 15 (some (mSz w))) 50 20 20) a0 16 (some (mSz (wR (wN w 50 20 20) a0 15 (some (mSz w))))))), .ref a0] (wN (wR (wN (wR (wN w 50 20 20) a0 15 (some (mSz w))) 50 20 20) a0 16 (some (mSz (wR (wN w 50 20 20) a0 15 (some (mSz w)))))) 1 0 (mNf 1)) := by
  refine Eq.trans (X_st f_84_120 rfl rfl) ?_
  refine Eq.trans (X_bipush f_84_121 kc_b_20) ?_
  refine Eq.trans (X_newa f_84_123 kn_20 kl_20 (Nat.le_of_ble_eq_true rfl)) ?_
  refine Eq.trans (X_putR f_84_125 h0 h1 rfl) ?_
  refine Eq.trans (X_st f_84_128 rfl rfl) ?_
  refine Eq.trans (X_bipush f_84_129 kc_b_20) ?_
  refine Eq.trans (X_newa f_84_131 kn_20 kl_20 (Nat.le_of_ble_eq_true rfl)) ?_
  refine Eq.trans (X_putR f_84_133 h2 h1 rfl) ?_
  refine Eq.trans (X_st f_84_136 rfl rfl) ?_
  refine Eq.trans (X_new f_84_137 (Nat.le_of_ble_eq_true rfl)) ?_
  exact mX_mask rfl
theorem b_84_140 {d : Nat} {b0 : Nat} {b1 : Nat} {w : MW} (h0 : mE ≤ b0) : mX (d + 1) 84 140 [mJ] [.ref b0, .ref b1] w = mThen (mK d 29 [.ref b0] w) (fun v w9 => mX (d + 1) 84 144 [mJ] (v.toList ++ [.ref b0, .ref b1]) w9) := by
  refine Eq.trans (X_dup f_84_140 rfl) ?_
  refine Eq.trans (X_call f_84_141 (by decide) rfl rfl rfl rfl rfl rfl (Nat.le_of_ble_eq_true rfl) (Nat.le_of_ble_eq_true rfl) (decide_eq_true h0) (Nat.le_of_ble_eq_true rfl)) ?_
  exact mThen_eq fun v w9 => mX_mask rfl
theorem b_84_144 {d : Nat} {b0 : Nat} {b1 : Nat} {w : MW} (h0 : mTg w b1 = 8) (h1 : mE ≤ b1) : mX d 84 144 [mJ] [.ref b0, .ref b1] w = some (.inl none, wR w b1 17 (some b0)) := by
  refine Eq.trans (X_putR f_84_144 h0 h1 rfl) ?_
  exact X_ret f_84_147 rfl rfl
/-! BeeTurnpike$Told countOf (I)I -/
theorem f_85_0 : mFetch 85 0 = some (.aload_n 0, 1, []) := by decide +kernel
theorem f_85_1 : mFetch 85 1 = some (.getfield 9, 3, [8, 0, 0, 177]) := by decide +kernel
theorem f_85_4 : mFetch 85 4 = some (.iload_n 1, 1, []) := by decide +kernel
theorem f_85_5 : mFetch 85 5 = some (.invokestatic 70, 3, [123, 2, 1, 0, 90, 559]) := by decide +kernel
theorem f_85_8 : mFetch 85 8 = some (.ireturn, 1, [0]) := by decide +kernel
theorem b_85_0 {d : Nat} {a0 : Nat} {x1 : Int32} {w : MW} (h0 : mTg w a0 = 8) (h1 : mR w a0 0 = some (gR w a0 0)) : mX (d + 1) 85 0 [.ref a0, .int x1] [] w = mThen (mK d 123 [.ref (gR w a0 0), .int x1] w) (fun v w9 => mX (d + 1) 85 8 [mJ, mJ] (v.toList ++ []) w9) := by
  refine Eq.trans (X_st f_85_0 rfl rfl) ?_
  refine Eq.trans (X_getR f_85_1 h0 rfl h1) ?_
  refine Eq.trans (X_st f_85_4 rfl rfl) ?_
  refine Eq.trans (X_call f_85_5 (by decide) rfl rfl rfl rfl rfl rfl (Nat.le_of_ble_eq_true rfl) (Nat.le_of_ble_eq_true rfl) rfl (Nat.le_of_ble_eq_true rfl)) ?_
  exact mThen_eq fun v w9 => mX_mask rfl
theorem e_85 {d : Nat} {a0 : Nat} {x1 : Int32} {w : MW} : mK d 85 [.ref a0, .int x1] w = mX d 85 0 [.ref a0, .int x1] [] w := rfl
theorem b_85_8 {d : Nat} {y0 : Int32} {w : MW} : mX d 85 8 [mJ, mJ] [.int y0] w = some (.inl (some (.int y0)), w) := by
  exact X_ireturn f_85_8 rfl
/-! BeeTurnpike$Told has (II)Z -/
theorem f_86_0 : mFetch 86 0 = some (.iload_n 2, 1, []) := by decide +kernel
theorem f_86_1 : mFetch 86 1 = some (.ifCond .lt 19, 3, [20]) := by decide +kernel
theorem f_86_4 : mFetch 86 4 = some (.iload_n 2, 1, []) := by decide +kernel
theorem f_86_5 : mFetch 86 5 = some (.aload_n 0, 1, []) := by decide +kernel
theorem f_86_6 : mFetch 86 6 = some (.getfield 9, 3, [8, 0, 0, 177]) := by decide +kernel
theorem f_86_9 : mFetch 86 9 = some (.iload_n 1, 1, []) := by decide +kernel
theorem f_86_10 : mFetch 86 10 = some (.invokestatic 70, 3, [123, 2, 1, 0, 90, 559]) := by decide +kernel
theorem f_86_13 : mFetch 86 13 = some (.if_icmp .ge 7, 3, [20]) := by decide +kernel
theorem f_86_16 : mFetch 86 16 = some (.iconst 1, 1, []) := by decide +kernel
theorem f_86_17 : mFetch 86 17 = some (.goto 4, 3, [21]) := by decide +kernel
theorem f_86_20 : mFetch 86 20 = some (.iconst 0, 1, []) := by decide +kernel
theorem f_86_21 : mFetch 86 21 = some (.ireturn, 1, [2]) := by decide +kernel
theorem b_86_0 {d : Nat} {a0 : Nat} {x1 : Int32} {x2 : Int32} {w : MW} : mX d 86 0 [.ref a0, .int x1, .int x2] [] w = (if x2 < nI 0 then mX d 86 20 [mJ, mJ, mJ] [] w else mX d 86 4 [.ref a0, .int x1, .int x2] [] w) := by
  refine Eq.trans (X_st f_86_0 rfl rfl) ?_
  refine Eq.trans (X_br f_86_1 rfl rfl) ?_
  exact mIte_eq (mX_mask rfl) (mX_mask rfl)
theorem e_86 {d : Nat} {a0 : Nat} {x1 : Int32} {x2 : Int32} {w : MW} : mK d 86 [.ref a0, .int x1, .int x2] w = mX d 86 0 [.ref a0, .int x1, .int x2] [] w := rfl
theorem b_86_4 {d : Nat} {a0 : Nat} {x1 : Int32} {x2 : Int32} {w : MW} (h0 : mTg w a0 = 8) (h1 : mR w a0 0 = some (gR w a0 0)) : mX (d + 1) 86 4 [.ref a0, .int x1, .int x2] [] w = mThen (mK d 123 [.ref (gR w a0 0), .int x1] w) (fun v w9 => mX (d + 1) 86 13 [mJ, mJ, mJ] (v.toList ++ [.int x2]) w9) := by
  refine Eq.trans (X_st f_86_4 rfl rfl) ?_
  refine Eq.trans (X_st f_86_5 rfl rfl) ?_
  refine Eq.trans (X_getR f_86_6 h0 rfl h1) ?_
  refine Eq.trans (X_st f_86_9 rfl rfl) ?_
  refine Eq.trans (X_call f_86_10 (by decide) rfl rfl rfl rfl rfl rfl (Nat.le_of_ble_eq_true rfl) (Nat.le_of_ble_eq_true rfl) rfl (Nat.le_of_ble_eq_true rfl)) ?_
  exact mThen_eq fun v w9 => mX_mask rfl
theorem b_86_13 {d : Nat} {y0 : Int32} {y1 : Int32} {w : MW} : mX d 86 13 [mJ, mJ, mJ] [.int y0, .int y1] w = (if y0 ≤ y1 then mX d 86 20 [mJ, mJ, mJ] [] w else mX d 86 16 [mJ, mJ, mJ] [] w) := by
  refine Eq.trans (X_br f_86_13 rfl rfl) ?_
  exact mIte_eq (mX_mask rfl) (mX_mask rfl)
theorem b_86_16 {d : Nat} {w : MW} : mX d 86 16 [mJ, mJ, mJ] [] w = mX d 86 21 [mJ, mJ, mJ] [.int (nI 1)] w := by
  refine Eq.trans (X_iconst f_86_16 kc_i_1) ?_
  refine Eq.trans (X_st f_86_17 rfl rfl) ?_
  exact mX_mask rfl
theorem b_86_20 {d : Nat} {w : MW} : mX d 86 20 [mJ, mJ, mJ] [] w = mX d 86 21 [mJ, mJ, mJ] [.int (nI 0)] w := by
  refine Eq.trans (X_iconst f_86_20 kc_i_0) ?_
  exact mX_mask rfl
theorem b_86_21 {d : Nat} {y0 : Int32} {w : MW} (h0 : mRk 2 y0 = true) : mX d 86 21 [mJ, mJ, mJ] [.int y0] w = some (.inl (some (.int y0)), w) := by
  exact X_ireturn f_86_21 h0
/-! BeeTurnpike$Told hardOf (I)I -/
theorem f_87_0 : mFetch 87 0 = some (.aload_n 0, 1, []) := by decide +kernel
theorem f_87_1 : mFetch 87 1 = some (.getfield 33, 3, [8, 7, 0, 199]) := by decide +kernel
theorem f_87_4 : mFetch 87 4 = some (.iload_n 1, 1, []) := by decide +kernel
theorem f_87_5 : mFetch 87 5 = some (.invokestatic 70, 3, [123, 2, 1, 0, 90, 559]) := by decide +kernel
theorem f_87_8 : mFetch 87 8 = some (.ireturn, 1, [0]) := by decide +kernel
theorem b_87_0 {d : Nat} {a0 : Nat} {x1 : Int32} {w : MW} (h0 : mTg w a0 = 8) (h1 : mR w a0 7 = some (gR w a0 7)) : mX (d + 1) 87 0 [.ref a0, .int x1] [] w = mThen (mK d 123 [.ref (gR w a0 7), .int x1] w) (fun v w9 => mX (d + 1) 87 8 [mJ, mJ] (v.toList ++ []) w9) := by
  refine Eq.trans (X_st f_87_0 rfl rfl) ?_
  refine Eq.trans (X_getR f_87_1 h0 rfl h1) ?_
  refine Eq.trans (X_st f_87_4 rfl rfl) ?_
  refine Eq.trans (X_call f_87_5 (by decide) rfl rfl rfl rfl rfl rfl (Nat.le_of_ble_eq_true rfl) (Nat.le_of_ble_eq_true rfl) rfl (Nat.le_of_ble_eq_true rfl)) ?_
  exact mThen_eq fun v w9 => mX_mask rfl
theorem e_87 {d : Nat} {a0 : Nat} {x1 : Int32} {w : MW} : mK d 87 [.ref a0, .int x1] w = mX d 87 0 [.ref a0, .int x1] [] w := rfl
theorem b_87_8 {d : Nat} {y0 : Int32} {w : MW} : mX d 87 8 [mJ, mJ] [.int y0] w = some (.inl (some (.int y0)), w) := by
  exact X_ireturn f_87_8 rfl
/-! BeeTurnpike$Told partAt (II)I -/
theorem f_88_0 : mFetch 88 0 = some (.aload_n 0, 1, []) := by decide +kernel
theorem f_88_1 : mFetch 88 1 = some (.getfield 30, 3, [8, 6, 0, 197]) := by decide +kernel
theorem f_88_4 : mFetch 88 4 = some (.iload_n 1, 1, []) := by decide +kernel
theorem f_88_5 : mFetch 88 5 = some (.iconst 4, 1, []) := by decide +kernel
theorem f_88_6 : mFetch 88 6 = some (.imul, 1, []) := by decide +kernel
theorem f_88_7 : mFetch 88 7 = some (.iload_n 2, 1, []) := by decide +kernel
theorem f_88_8 : mFetch 88 8 = some (.iadd, 1, []) := by decide +kernel
theorem f_88_9 : mFetch 88 9 = some (.invokestatic 70, 3, [123, 2, 1, 0, 90, 559]) := by decide +kernel
theorem f_88_12 : mFetch 88 12 = some (.ireturn, 1, [0]) := by decide +kernel
theorem b_88_0 {d : Nat} {a0 : Nat} {x1 : Int32} {x2 : Int32} {w : MW} (h0 : mTg w a0 = 8) (h1 : mR w a0 6 = some (gR w a0 6)) : mX (d + 1) 88 0 [.ref a0, .int x1, .int x2] [] w = mThen (mK d 123 [.ref (gR w a0 6), .int ((x1 * (nI 4)) + x2)] w) (fun v w9 => mX (d + 1) 88 12 [mJ, mJ, mJ] (v.toList ++ []) w9) := by
  refine Eq.trans (X_st f_88_0 rfl rfl) ?_
  refine Eq.trans (X_getR f_88_1 h0 rfl h1) ?_
  refine Eq.trans (X_st f_88_4 rfl rfl) ?_
  refine Eq.trans (X_iconst f_88_5 kc_i_4) ?_
  refine Eq.trans (X_st f_88_6 rfl rfl) ?_
  refine Eq.trans (X_st f_88_7 rfl rfl) ?_
  refine Eq.trans (X_st f_88_8 rfl rfl) ?_
  refine Eq.trans (X_call f_88_9 (by decide) rfl rfl rfl rfl rfl rfl (Nat.le_of_ble_eq_true rfl) (Nat.le_of_ble_eq_true rfl) rfl (Nat.le_of_ble_eq_true rfl)) ?_
  exact mThen_eq fun v w9 => mX_mask rfl
theorem e_88 {d : Nat} {a0 : Nat} {x1 : Int32} {x2 : Int32} {w : MW} : mK d 88 [.ref a0, .int x1, .int x2] w = mX d 88 0 [.ref a0, .int x1, .int x2] [] w := rfl
theorem b_88_12 {d : Nat} {y0 : Int32} {w : MW} : mX d 88 12 [mJ, mJ, mJ] [.int y0] w = some (.inl (some (.int y0)), w) := by
  exact X_ireturn f_88_12 rfl
/-! BeeTurnpike$Told lettersOf (I)I -/
theorem f_89_0 : mFetch 89 0 = some (.iconst 0, 1, []) := by decide +kernel
theorem f_89_1 : mFetch 89 1 = some (.istore_n 2, 1, []) := by decide +kernel
theorem f_89_2 : mFetch 89 2 = some (.iconst 0, 1, []) := by decide +kernel
theorem f_89_3 : mFetch 89 3 = some (.istore_n 3, 1, []) := by decide +kernel
theorem f_89_4 : mFetch 89 4 = some (.iload_n 3, 1, []) := by decide +kernel
theorem f_89_5 : mFetch 89 5 = some (.aload_n 0, 1, []) := by decide +kernel
theorem f_89_6 : mFetch 89 6 = some (.getfield 27, 3, [8, 5, 0, 193]) := by decide +kernel
theorem f_89_9 : mFetch 89 9 = some (.iload_n 1, 1, []) := by decide +kernel
theorem f_89_10 : mFetch 89 10 = some (.invokestatic 70, 3, [123, 2, 1, 0, 90, 559]) := by decide +kernel
theorem f_89_13 : mFetch 89 13 = some (.if_icmp .ge 25, 3, [38]) := by decide +kernel
theorem f_89_16 : mFetch 89 16 = some (.iload_n 2, 1, []) := by decide +kernel
theorem f_89_17 : mFetch 89 17 = some (.aload_n 0, 1, []) := by decide +kernel
theorem f_89_18 : mFetch 89 18 = some (.getfield 21, 3, [8, 3, 0, 187]) := by decide +kernel
theorem f_89_21 : mFetch 89 21 = some (.aload_n 0, 1, []) := by decide +kernel
theorem f_89_22 : mFetch 89 22 = some (.iload_n 1, 1, []) := by decide +kernel
theorem f_89_23 : mFetch 89 23 = some (.iload_n 3, 1, []) := by decide +kernel
theorem f_89_24 : mFetch 89 24 = some (.invokevirtual 74, 3, [88, 3, 2, 8, 597, 598, 599]) := by decide +kernel
theorem f_89_27 : mFetch 89 27 = some (.invokestatic 70, 3, [123, 2, 1, 0, 90, 559]) := by decide +kernel
theorem f_89_30 : mFetch 89 30 = some (.iadd, 1, []) := by decide +kernel
theorem f_89_31 : mFetch 89 31 = some (.istore_n 2, 1, []) := by decide +kernel
theorem f_89_32 : mFetch 89 32 = some (.iinc 3 1, 3, []) := by decide +kernel
theorem f_89_35 : mFetch 89 35 = some (.goto (-31), 3, [4]) := by decide +kernel
theorem f_89_38 : mFetch 89 38 = some (.iload_n 2, 1, []) := by decide +kernel
theorem f_89_39 : mFetch 89 39 = some (.ireturn, 1, [0]) := by decide +kernel
theorem b_89_0 {d : Nat} {a0 : Nat} {x1 : Int32} {w : MW} : mX d 89 0 [.ref a0, .int x1, mJ, mJ] [] w = mX d 89 4 [.ref a0, .int x1, .int (nI 0), .int (nI 0)] [] w := by
  refine Eq.trans (X_iconst f_89_0 kc_i_0) ?_
  refine Eq.trans (X_istore_n (L' := [.ref a0, .int x1, .int (nI 0), mJ]) f_89_1 (Nat.le_of_ble_eq_true rfl) rfl) ?_
  refine Eq.trans (X_iconst f_89_2 kc_i_0) ?_
  refine Eq.trans (X_istore_n (L' := [.ref a0, .int x1, .int (nI 0), .int (nI 0)]) f_89_3 (Nat.le_of_ble_eq_true rfl) rfl) ?_
  exact mX_mask rfl
theorem e_89 {d : Nat} {a0 : Nat} {x1 : Int32} {w : MW} : mK d 89 [.ref a0, .int x1] w = mX d 89 0 [.ref a0, .int x1, mJ, mJ] [] w := rfl
theorem b_89_4 {d : Nat} {a0 : Nat} {x1 : Int32} {x2 : Int32} {x3 : Int32} {w : MW} (h0 : mTg w a0 = 8) (h1 : mR w a0 5 = some (gR w a0 5)) : mX (d + 1) 89 4 [.ref a0, .int x1, .int x2, .int x3] [] w = mThen (mK d 123 [.ref (gR w a0 5), .int x1] w) (fun v w9 => mX (d + 1) 89 13 [.ref a0, .int x1, .int x2, .int x3] (v.toList ++ [.int x3]) w9) := by
  refine Eq.trans (X_st f_89_4 rfl rfl) ?_
  refine Eq.trans (X_st f_89_5 rfl rfl) ?_
  refine Eq.trans (X_getR f_89_6 h0 rfl h1) ?_
  refine Eq.trans (X_st f_89_9 rfl rfl) ?_
  refine Eq.trans (X_call f_89_10 (by decide) rfl rfl rfl rfl rfl rfl (Nat.le_of_ble_eq_true rfl) (Nat.le_of_ble_eq_true rfl) rfl (Nat.le_of_ble_eq_true rfl)) ?_
  exact mThen_eq fun v w9 => mX_mask rfl
theorem b_89_13 {d : Nat} {a0 : Nat} {x1 : Int32} {x2 : Int32} {x3 : Int32} {y0 : Int32} {y1 : Int32} {w : MW} : mX d 89 13 [.ref a0, .int x1, .int x2, .int x3] [.int y0, .int y1] w = (if y0 ≤ y1 then mX d 89 38 [mJ, mJ, .int x2, mJ] [] w else mX d 89 16 [.ref a0, .int x1, .int x2, .int x3] [] w) := by
  refine Eq.trans (X_br f_89_13 rfl rfl) ?_
  exact mIte_eq (mX_mask rfl) (mX_mask rfl)
theorem b_89_16 {d : Nat} {a0 : Nat} {x1 : Int32} {x2 : Int32} {x3 : Int32} {w : MW} (h0 : mTg w a0 = 8) (h1 : mR w a0 3 = some (gR w a0 3)) : mX (d + 1) 89 16 [.ref a0, .int x1, .int x2, .int x3] [] w = mThen (mK d 88 [.ref a0, .int x1, .int x3] w) (fun v w9 => mX (d + 1) 89 27 [.ref a0, .int x1, mJ, .int x3] (v.toList ++ [.ref (gR w a0 3), .int x2]) w9) := by
  refine Eq.trans (X_st f_89_16 rfl rfl) ?_
  refine Eq.trans (X_st f_89_17 rfl rfl) ?_
  refine Eq.trans (X_getR f_89_18 h0 rfl h1) ?_
  refine Eq.trans (X_st f_89_21 rfl rfl) ?_
  refine Eq.trans (X_st f_89_22 rfl rfl) ?_
  refine Eq.trans (X_st f_89_23 rfl rfl) ?_
  refine Eq.trans (X_call f_89_24 (by decide) rfl rfl rfl rfl rfl rfl (Nat.le_of_ble_eq_true rfl) (Nat.le_of_ble_eq_true rfl) (decide_eq_true h0) (Nat.le_of_ble_eq_true rfl)) ?_
  exact mThen_eq fun v w9 => mX_mask rfl
theorem b_89_27 {d : Nat} {a0 : Nat} {x1 : Int32} {x3 : Int32} {y0 : Int32} {b1 : Nat} {y2 : Int32} {w : MW} : mX (d + 1) 89 27 [.ref a0, .int x1, mJ, .int x3] [.int y0, .ref b1, .int y2] w = mThen (mK d 123 [.ref b1, .int y0] w) (fun v w9 => mX (d + 1) 89 30 [.ref a0, .int x1, mJ, .int x3] (v.toList ++ [.int y2]) w9) := by
  refine Eq.trans (X_call f_89_27 (by decide) rfl rfl rfl rfl rfl rfl (Nat.le_of_ble_eq_true rfl) (Nat.le_of_ble_eq_true rfl) rfl (Nat.le_of_ble_eq_true rfl)) ?_
  exact mThen_eq fun v w9 => mX_mask rfl
theorem b_89_30 {d : Nat} {a0 : Nat} {x1 : Int32} {x3 : Int32} {y0 : Int32} {y1 : Int32} {w : MW} : mX d 89 30 [.ref a0, .int x1, mJ, .int x3] [.int y0, .int y1] w = mX d 89 4 [.ref a0, .int x1, .int (y1 + y0), .int (x3 + (nI 1))] [] w := by
  refine Eq.trans (X_st f_89_30 rfl rfl) ?_
  refine Eq.trans (X_istore_n (L' := [.ref a0, .int x1, .int (y1 + y0), .int x3]) f_89_31 (Nat.le_of_ble_eq_true rfl) rfl) ?_
  refine Eq.trans (X_iinc f_89_32 kc_i_1 rfl rfl) ?_
  refine Eq.trans (X_st f_89_35 rfl rfl) ?_
  exact mX_mask rfl
theorem b_89_38 {d : Nat} {x2 : Int32} {w : MW} : mX d 89 38 [mJ, mJ, .int x2, mJ] [] w = some (.inl (some (.int x2)), w) := by
  refine Eq.trans (X_st f_89_38 rfl rfl) ?_
  exact X_ireturn f_89_39 rfl
/-! BeeTurnpike$Told wordsWith (I)I -/
theorem f_90_0 : mFetch 90 0 = some (.iconst 0, 1, []) := by decide +kernel
theorem f_90_1 : mFetch 90 1 = some (.istore_n 2, 1, []) := by decide +kernel
theorem f_90_2 : mFetch 90 2 = some (.iconst 0, 1, []) := by decide +kernel
theorem f_90_3 : mFetch 90 3 = some (.istore_n 3, 1, []) := by decide +kernel
theorem f_90_4 : mFetch 90 4 = some (.iload_n 3, 1, []) := by decide +kernel
theorem f_90_5 : mFetch 90 5 = some (.aload_n 0, 1, []) := by decide +kernel
theorem f_90_6 : mFetch 90 6 = some (.getfield 9, 3, [8, 0, 0, 177]) := by decide +kernel
theorem f_90_9 : mFetch 90 9 = some (.iconst 2, 1, []) := by decide +kernel
theorem f_90_10 : mFetch 90 10 = some (.invokestatic 70, 3, [123, 2, 1, 0, 90, 559]) := by decide +kernel
theorem f_90_13 : mFetch 90 13 = some (.if_icmp .ge 21, 3, [34]) := by decide +kernel
theorem f_90_16 : mFetch 90 16 = some (.aload_n 0, 1, []) := by decide +kernel
theorem f_90_17 : mFetch 90 17 = some (.iload_n 1, 1, []) := by decide +kernel
theorem f_90_18 : mFetch 90 18 = some (.iload_n 3, 1, []) := by decide +kernel
theorem f_90_19 : mFetch 90 19 = some (.invokevirtual 78, 3, [91, 3, 2, 8, 814, 816, 24]) := by decide +kernel
theorem f_90_22 : mFetch 90 22 = some (.ifCond .eq 6, 3, [28]) := by decide +kernel
theorem f_90_25 : mFetch 90 25 = some (.iinc 2 1, 3, []) := by decide +kernel
theorem f_90_28 : mFetch 90 28 = some (.iinc 3 1, 3, []) := by decide +kernel
theorem f_90_31 : mFetch 90 31 = some (.goto (-27), 3, [4]) := by decide +kernel
theorem f_90_34 : mFetch 90 34 = some (.iload_n 2, 1, []) := by decide +kernel
theorem f_90_35 : mFetch 90 35 = some (.ireturn, 1, [0]) := by decide +kernel
theorem b_90_0 {d : Nat} {a0 : Nat} {x1 : Int32} {w : MW} : mX d 90 0 [.ref a0, .int x1, mJ, mJ] [] w = mX d 90 4 [.ref a0, .int x1, .int (nI 0), .int (nI 0)] [] w := by
  refine Eq.trans (X_iconst f_90_0 kc_i_0) ?_
  refine Eq.trans (X_istore_n (L' := [.ref a0, .int x1, .int (nI 0), mJ]) f_90_1 (Nat.le_of_ble_eq_true rfl) rfl) ?_
  refine Eq.trans (X_iconst f_90_2 kc_i_0) ?_
  refine Eq.trans (X_istore_n (L' := [.ref a0, .int x1, .int (nI 0), .int (nI 0)]) f_90_3 (Nat.le_of_ble_eq_true rfl) rfl) ?_
  exact mX_mask rfl
theorem e_90 {d : Nat} {a0 : Nat} {x1 : Int32} {w : MW} : mK d 90 [.ref a0, .int x1] w = mX d 90 0 [.ref a0, .int x1, mJ, mJ] [] w := rfl
theorem b_90_4 {d : Nat} {a0 : Nat} {x1 : Int32} {x2 : Int32} {x3 : Int32} {w : MW} (h0 : mTg w a0 = 8) (h1 : mR w a0 0 = some (gR w a0 0)) : mX (d + 1) 90 4 [.ref a0, .int x1, .int x2, .int x3] [] w = mThen (mK d 123 [.ref (gR w a0 0), .int (nI 2)] w) (fun v w9 => mX (d + 1) 90 13 [.ref a0, .int x1, .int x2, .int x3] (v.toList ++ [.int x3]) w9) := by
  refine Eq.trans (X_st f_90_4 rfl rfl) ?_
  refine Eq.trans (X_st f_90_5 rfl rfl) ?_
  refine Eq.trans (X_getR f_90_6 h0 rfl h1) ?_
  refine Eq.trans (X_iconst f_90_9 kc_i_2) ?_
  refine Eq.trans (X_call f_90_10 (by decide) rfl rfl rfl rfl rfl rfl (Nat.le_of_ble_eq_true rfl) (Nat.le_of_ble_eq_true rfl) rfl (Nat.le_of_ble_eq_true rfl)) ?_
  exact mThen_eq fun v w9 => mX_mask rfl
theorem b_90_13 {d : Nat} {a0 : Nat} {x1 : Int32} {x2 : Int32} {x3 : Int32} {y0 : Int32} {y1 : Int32} {w : MW} : mX d 90 13 [.ref a0, .int x1, .int x2, .int x3] [.int y0, .int y1] w = (if y0 ≤ y1 then mX d 90 34 [mJ, mJ, .int x2, mJ] [] w else mX d 90 16 [.ref a0, .int x1, .int x2, .int x3] [] w) := by
  refine Eq.trans (X_br f_90_13 rfl rfl) ?_
  exact mIte_eq (mX_mask rfl) (mX_mask rfl)
theorem b_90_16 {d : Nat} {a0 : Nat} {x1 : Int32} {x2 : Int32} {x3 : Int32} {w : MW} (h0 : mTg w a0 = 8) : mX (d + 1) 90 16 [.ref a0, .int x1, .int x2, .int x3] [] w = mThen (mK d 91 [.ref a0, .int x1, .int x3] w) (fun v w9 => mX (d + 1) 90 22 [.ref a0, .int x1, .int x2, .int x3] (v.toList ++ []) w9) := by
  refine Eq.trans (X_st f_90_16 rfl rfl) ?_
  refine Eq.trans (X_st f_90_17 rfl rfl) ?_
  refine Eq.trans (X_st f_90_18 rfl rfl) ?_
  refine Eq.trans (X_call f_90_19 (by decide) rfl rfl rfl rfl rfl rfl (Nat.le_of_ble_eq_true rfl) (Nat.le_of_ble_eq_true rfl) (decide_eq_true h0) (Nat.le_of_ble_eq_true rfl)) ?_
  exact mThen_eq fun v w9 => mX_mask rfl
theorem b_90_22 {d : Nat} {a0 : Nat} {x1 : Int32} {x2 : Int32} {x3 : Int32} {y0 : Int32} {w : MW} : mX d 90 22 [.ref a0, .int x1, .int x2, .int x3] [.int y0] w = (if y0 = nI 0 then mX d 90 28 [.ref a0, .int x1, .int x2, .int x3] [] w else mX d 90 25 [.ref a0, .int x1, .int x2, .int x3] [] w) := by
  refine Eq.trans (X_br f_90_22 rfl rfl) ?_
  exact mIte_eq (mX_mask rfl) (mX_mask rfl)
theorem b_90_25 {d : Nat} {a0 : Nat} {x1 : Int32} {x2 : Int32} {x3 : Int32} {w : MW} : mX d 90 25 [.ref a0, .int x1, .int x2, .int x3] [] w = mX d 90 28 [.ref a0, .int x1, .int (x2 + (nI 1)), .int x3] [] w := by
  refine Eq.trans (X_iinc f_90_25 kc_i_1 rfl rfl) ?_
  exact mX_mask rfl
theorem b_90_28 {d : Nat} {a0 : Nat} {x1 : Int32} {x2 : Int32} {x3 : Int32} {w : MW} : mX d 90 28 [.ref a0, .int x1, .int x2, .int x3] [] w = mX d 90 4 [.ref a0, .int x1, .int x2, .int (x3 + (nI 1))] [] w := by
  refine Eq.trans (X_iinc f_90_28 kc_i_1 rfl rfl) ?_
  refine Eq.trans (X_st f_90_31 rfl rfl) ?_
  exact mX_mask rfl
theorem b_90_34 {d : Nat} {x2 : Int32} {w : MW} : mX d 90 34 [mJ, mJ, .int x2, mJ] [] w = some (.inl (some (.int x2)), w) := by
  refine Eq.trans (X_st f_90_34 rfl rfl) ?_
  exact X_ireturn f_90_35 rfl
/-! BeeTurnpike$Told comesIn (II)Z -/
theorem f_91_0 : mFetch 91 0 = some (.iconst 0, 1, []) := by decide +kernel
theorem f_91_1 : mFetch 91 1 = some (.istore_n 3, 1, []) := by decide +kernel
theorem f_91_2 : mFetch 91 2 = some (.iload_n 3, 1, []) := by decide +kernel
theorem f_91_3 : mFetch 91 3 = some (.aload_n 0, 1, []) := by decide +kernel
theorem f_91_4 : mFetch 91 4 = some (.getfield 27, 3, [8, 5, 0, 193]) := by decide +kernel
theorem f_91_7 : mFetch 91 7 = some (.iload_n 2, 1, []) := by decide +kernel
theorem f_91_8 : mFetch 91 8 = some (.invokestatic 70, 3, [123, 2, 1, 0, 90, 559]) := by decide +kernel
theorem f_91_11 : mFetch 91 11 = some (.if_icmp .ge 21, 3, [32]) := by decide +kernel
theorem f_91_14 : mFetch 91 14 = some (.aload_n 0, 1, []) := by decide +kernel
theorem f_91_15 : mFetch 91 15 = some (.iload_n 2, 1, []) := by decide +kernel
theorem f_91_16 : mFetch 91 16 = some (.iload_n 3, 1, []) := by decide +kernel
theorem f_91_17 : mFetch 91 17 = some (.invokevirtual 74, 3, [88, 3, 2, 8, 597, 598, 599]) := by decide +kernel
theorem f_91_20 : mFetch 91 20 = some (.iload_n 1, 1, []) := by decide +kernel
theorem f_91_21 : mFetch 91 21 = some (.if_icmp .ne 5, 3, [26]) := by decide +kernel
theorem f_91_24 : mFetch 91 24 = some (.iconst 1, 1, []) := by decide +kernel
theorem f_91_25 : mFetch 91 25 = some (.ireturn, 1, [2]) := by decide +kernel
theorem f_91_26 : mFetch 91 26 = some (.iinc 3 1, 3, []) := by decide +kernel
theorem f_91_29 : mFetch 91 29 = some (.goto (-27), 3, [2]) := by decide +kernel
theorem f_91_32 : mFetch 91 32 = some (.iconst 0, 1, []) := by decide +kernel
theorem f_91_33 : mFetch 91 33 = some (.ireturn, 1, [2]) := by decide +kernel
theorem b_91_0 {d : Nat} {a0 : Nat} {x1 : Int32} {x2 : Int32} {w : MW} : mX d 91 0 [.ref a0, .int x1, .int x2, mJ] [] w = mX d 91 2 [.ref a0, .int x1, .int x2, .int (nI 0)] [] w := by
  refine Eq.trans (X_iconst f_91_0 kc_i_0) ?_
  refine Eq.trans (X_istore_n (L' := [.ref a0, .int x1, .int x2, .int (nI 0)]) f_91_1 (Nat.le_of_ble_eq_true rfl) rfl) ?_
  exact mX_mask rfl
theorem e_91 {d : Nat} {a0 : Nat} {x1 : Int32} {x2 : Int32} {w : MW} : mK d 91 [.ref a0, .int x1, .int x2] w = mX d 91 0 [.ref a0, .int x1, .int x2, mJ] [] w := rfl
theorem b_91_2 {d : Nat} {a0 : Nat} {x1 : Int32} {x2 : Int32} {x3 : Int32} {w : MW} (h0 : mTg w a0 = 8) (h1 : mR w a0 5 = some (gR w a0 5)) : mX (d + 1) 91 2 [.ref a0, .int x1, .int x2, .int x3] [] w = mThen (mK d 123 [.ref (gR w a0 5), .int x2] w) (fun v w9 => mX (d + 1) 91 11 [.ref a0, .int x1, .int x2, .int x3] (v.toList ++ [.int x3]) w9) := by
  refine Eq.trans (X_st f_91_2 rfl rfl) ?_
  refine Eq.trans (X_st f_91_3 rfl rfl) ?_
  refine Eq.trans (X_getR f_91_4 h0 rfl h1) ?_
  refine Eq.trans (X_st f_91_7 rfl rfl) ?_
  refine Eq.trans (X_call f_91_8 (by decide) rfl rfl rfl rfl rfl rfl (Nat.le_of_ble_eq_true rfl) (Nat.le_of_ble_eq_true rfl) rfl (Nat.le_of_ble_eq_true rfl)) ?_
  exact mThen_eq fun v w9 => mX_mask rfl
theorem b_91_11 {d : Nat} {a0 : Nat} {x1 : Int32} {x2 : Int32} {x3 : Int32} {y0 : Int32} {y1 : Int32} {w : MW} : mX d 91 11 [.ref a0, .int x1, .int x2, .int x3] [.int y0, .int y1] w = (if y0 ≤ y1 then mX d 91 32 [mJ, mJ, mJ, mJ] [] w else mX d 91 14 [.ref a0, .int x1, .int x2, .int x3] [] w) := by
  refine Eq.trans (X_br f_91_11 rfl rfl) ?_
  exact mIte_eq (mX_mask rfl) (mX_mask rfl)
theorem b_91_14 {d : Nat} {a0 : Nat} {x1 : Int32} {x2 : Int32} {x3 : Int32} {w : MW} (h0 : mTg w a0 = 8) : mX (d + 1) 91 14 [.ref a0, .int x1, .int x2, .int x3] [] w = mThen (mK d 88 [.ref a0, .int x2, .int x3] w) (fun v w9 => mX (d + 1) 91 20 [.ref a0, .int x1, .int x2, .int x3] (v.toList ++ []) w9) := by
  refine Eq.trans (X_st f_91_14 rfl rfl) ?_
  refine Eq.trans (X_st f_91_15 rfl rfl) ?_
  refine Eq.trans (X_st f_91_16 rfl rfl) ?_
  refine Eq.trans (X_call f_91_17 (by decide) rfl rfl rfl rfl rfl rfl (Nat.le_of_ble_eq_true rfl) (Nat.le_of_ble_eq_true rfl) (decide_eq_true h0) (Nat.le_of_ble_eq_true rfl)) ?_
  exact mThen_eq fun v w9 => mX_mask rfl
theorem b_91_20 {d : Nat} {a0 : Nat} {x1 : Int32} {x2 : Int32} {x3 : Int32} {y0 : Int32} {w : MW} : mX d 91 20 [.ref a0, .int x1, .int x2, .int x3] [.int y0] w = (if ¬ y0 = x1 then mX d 91 26 [.ref a0, .int x1, .int x2, .int x3] [] w else mX d 91 24 [mJ, mJ, mJ, mJ] [] w) := by
  refine Eq.trans (X_st f_91_20 rfl rfl) ?_
  refine Eq.trans (X_br f_91_21 rfl rfl) ?_
  exact mIte_eq (mX_mask rfl) (mX_mask rfl)
theorem b_91_24 {d : Nat} {w : MW} : mX d 91 24 [mJ, mJ, mJ, mJ] [] w = some (.inl (some (.int (nI 1))), w) := by
  refine Eq.trans (X_iconst f_91_24 kc_i_1) ?_
  exact X_ireturn f_91_25 rfl
theorem b_91_26 {d : Nat} {a0 : Nat} {x1 : Int32} {x2 : Int32} {x3 : Int32} {w : MW} : mX d 91 26 [.ref a0, .int x1, .int x2, .int x3] [] w = mX d 91 2 [.ref a0, .int x1, .int x2, .int (x3 + (nI 1))] [] w := by
  refine Eq.trans (X_iinc f_91_26 kc_i_1 rfl rfl) ?_
  refine Eq.trans (X_st f_91_29 rfl rfl) ?_
  exact mX_mask rfl
theorem b_91_32 {d : Nat} {w : MW} : mX d 91 32 [mJ, mJ, mJ, mJ] [] w = some (.inl (some (.int (nI 0))), w) := by
  refine Eq.trans (X_iconst f_91_32 kc_i_0) ?_
  exact X_ireturn f_91_33 rfl
/-! BeeTurnpike$Told clear ()V -/
theorem f_92_0 : mFetch 92 0 = some (.aload_n 0, 1, []) := by decide +kernel
theorem f_92_1 : mFetch 92 1 = some (.getfield 9, 3, [8, 0, 0, 177]) := by decide +kernel
theorem f_92_4 : mFetch 92 4 = some (.iconst 0, 1, []) := by decide +kernel
theorem f_92_5 : mFetch 92 5 = some (.invokestatic 82, 3, [188, 2, 0, 0, 1238, 1239]) := by decide +kernel
theorem f_92_8 : mFetch 92 8 = some (.aload_n 0, 1, []) := by decide +kernel
theorem f_92_9 : mFetch 92 9 = some (.getfield 27, 3, [8, 5, 0, 193]) := by decide +kernel
theorem f_92_12 : mFetch 92 12 = some (.iconst 0, 1, []) := by decide +kernel
theorem f_92_13 : mFetch 92 13 = some (.invokestatic 82, 3, [188, 2, 0, 0, 1238, 1239]) := by decide +kernel
theorem f_92_16 : mFetch 92 16 = some (.aload_n 0, 1, []) := by decide +kernel
theorem f_92_17 : mFetch 92 17 = some (.getfield 48, 3, [8, 12, 0, 212]) := by decide +kernel
theorem f_92_20 : mFetch 92 20 = some (.iconst 0, 1, []) := by decide +kernel
theorem f_92_21 : mFetch 92 21 = some (.invokestatic 82, 3, [188, 2, 0, 0, 1238, 1239]) := by decide +kernel
theorem f_92_24 : mFetch 92 24 = some (.aload_n 0, 1, []) := by decide +kernel
theorem f_92_25 : mFetch 92 25 = some (.getfield 39, 3, [8, 9, 0, 203]) := by decide +kernel
theorem f_92_28 : mFetch 92 28 = some (.iconst 0, 1, []) := by decide +kernel
theorem f_92_29 : mFetch 92 29 = some (.invokestatic 82, 3, [188, 2, 0, 0, 1238, 1239]) := by decide +kernel
theorem f_92_32 : mFetch 92 32 = some (.return_, 1, []) := by decide +kernel
theorem b_92_0 {d : Nat} {a0 : Nat} {w : MW} (h0 : mTg w a0 = 8) (h1 : mR w a0 0 = some (gR w a0 0)) : mX (d + 1) 92 0 [.ref a0] [] w = mThen (mK d 188 [.ref (gR w a0 0), .int (nI 0)] w) (fun v w9 => mX (d + 1) 92 8 [.ref a0] (v.toList ++ []) w9) := by
  refine Eq.trans (X_st f_92_0 rfl rfl) ?_
  refine Eq.trans (X_getR f_92_1 h0 rfl h1) ?_
  refine Eq.trans (X_iconst f_92_4 kc_i_0) ?_
  refine Eq.trans (X_call f_92_5 (by decide) rfl rfl rfl rfl rfl rfl (Nat.le_of_ble_eq_true rfl) (Nat.le_of_ble_eq_true rfl) rfl (Nat.le_of_ble_eq_true rfl)) ?_
  exact mThen_eq fun v w9 => mX_mask rfl
theorem e_92 {d : Nat} {a0 : Nat} {w : MW} : mK d 92 [.ref a0] w = mX d 92 0 [.ref a0] [] w := rfl
theorem b_92_8 {d : Nat} {a0 : Nat} {w : MW} (h0 : mTg w a0 = 8) (h1 : mR w a0 5 = some (gR w a0 5)) : mX (d + 1) 92 8 [.ref a0] [] w = mThen (mK d 188 [.ref (gR w a0 5), .int (nI 0)] w) (fun v w9 => mX (d + 1) 92 16 [.ref a0] (v.toList ++ []) w9) := by
  refine Eq.trans (X_st f_92_8 rfl rfl) ?_
  refine Eq.trans (X_getR f_92_9 h0 rfl h1) ?_
  refine Eq.trans (X_iconst f_92_12 kc_i_0) ?_
  refine Eq.trans (X_call f_92_13 (by decide) rfl rfl rfl rfl rfl rfl (Nat.le_of_ble_eq_true rfl) (Nat.le_of_ble_eq_true rfl) rfl (Nat.le_of_ble_eq_true rfl)) ?_
  exact mThen_eq fun v w9 => mX_mask rfl
theorem b_92_16 {d : Nat} {a0 : Nat} {w : MW} (h0 : mTg w a0 = 8) (h1 : mR w a0 12 = some (gR w a0 12)) : mX (d + 1) 92 16 [.ref a0] [] w = mThen (mK d 188 [.ref (gR w a0 12), .int (nI 0)] w) (fun v w9 => mX (d + 1) 92 24 [.ref a0] (v.toList ++ []) w9) := by
  refine Eq.trans (X_st f_92_16 rfl rfl) ?_
  refine Eq.trans (X_getR f_92_17 h0 rfl h1) ?_
  refine Eq.trans (X_iconst f_92_20 kc_i_0) ?_
  refine Eq.trans (X_call f_92_21 (by decide) rfl rfl rfl rfl rfl rfl (Nat.le_of_ble_eq_true rfl) (Nat.le_of_ble_eq_true rfl) rfl (Nat.le_of_ble_eq_true rfl)) ?_
  exact mThen_eq fun v w9 => mX_mask rfl
theorem b_92_24 {d : Nat} {a0 : Nat} {w : MW} (h0 : mTg w a0 = 8) (h1 : mR w a0 9 = some (gR w a0 9)) : mX (d + 1) 92 24 [.ref a0] [] w = mThen (mK d 188 [.ref (gR w a0 9), .int (nI 0)] w) (fun v w9 => mX (d + 1) 92 32 [mJ] (v.toList ++ []) w9) := by
  refine Eq.trans (X_st f_92_24 rfl rfl) ?_
  refine Eq.trans (X_getR f_92_25 h0 rfl h1) ?_
  refine Eq.trans (X_iconst f_92_28 kc_i_0) ?_
  refine Eq.trans (X_call f_92_29 (by decide) rfl rfl rfl rfl rfl rfl (Nat.le_of_ble_eq_true rfl) (Nat.le_of_ble_eq_true rfl) rfl (Nat.le_of_ble_eq_true rfl)) ?_
  exact mThen_eq fun v w9 => mX_mask rfl
theorem b_92_32 {d : Nat} {w : MW} : mX d 92 32 [mJ] [] w = some (.inl none, w) := by
  exact X_ret f_92_32 rfl rfl
/-! BeeTurnpike$Told settle (LBeeTurnpike$Tokens;)V -/
theorem f_93_0 : mFetch 93 0 = some (.aload_n 0, 1, []) := by decide +kernel
theorem f_93_1 : mFetch 93 1 = some (.getfield 66, 3, [8, 17, 0, 228]) := by decide +kernel
theorem f_93_4 : mFetch 93 4 = some (.aload_n 1, 1, []) := by decide +kernel
theorem f_93_5 : mFetch 93 5 = some (.invokevirtual 88, 3, [31, 2, 2, 1, 1288, 1289, 1290]) := by decide +kernel
theorem f_93_8 : mFetch 93 8 = some (.iconst 0, 1, []) := by decide +kernel
theorem f_93_9 : mFetch 93 9 = some (.istore_n 2, 1, []) := by decide +kernel
theorem f_93_10 : mFetch 93 10 = some (.iload_n 2, 1, []) := by decide +kernel
theorem f_93_11 : mFetch 93 11 = some (.aload_n 0, 1, []) := by decide +kernel
theorem f_93_12 : mFetch 93 12 = some (.getfield 9, 3, [8, 0, 0, 177]) := by decide +kernel
theorem f_93_15 : mFetch 93 15 = some (.iconst 2, 1, []) := by decide +kernel
theorem f_93_16 : mFetch 93 16 = some (.invokestatic 70, 3, [123, 2, 1, 0, 90, 559]) := by decide +kernel
theorem f_93_19 : mFetch 93 19 = some (.if_icmp .ge 65, 3, [84]) := by decide +kernel
theorem f_93_22 : mFetch 93 22 = some (.aload_n 0, 1, []) := by decide +kernel
theorem f_93_23 : mFetch 93 23 = some (.iload_n 2, 1, []) := by decide +kernel
theorem f_93_24 : mFetch 93 24 = some (.invokevirtual 92, 3, [89, 2, 2, 8, 1293, 594, 595]) := by decide +kernel
theorem f_93_27 : mFetch 93 27 = some (.iconst 4, 1, []) := by decide +kernel
theorem f_93_28 : mFetch 93 28 = some (.idiv, 1, []) := by decide +kernel
theorem f_93_29 : mFetch 93 29 = some (.istore_n 3, 1, []) := by decide +kernel
theorem f_93_30 : mFetch 93 30 = some (.iconst 0, 1, []) := by decide +kernel
theorem f_93_31 : mFetch 93 31 = some (.istore 4, 2, []) := by decide +kernel
theorem f_93_33 : mFetch 93 33 = some (.iload 4, 2, []) := by decide +kernel
theorem f_93_35 : mFetch 93 35 = some (.aload_n 0, 1, []) := by decide +kernel
theorem f_93_36 : mFetch 93 36 = some (.getfield 27, 3, [8, 5, 0, 193]) := by decide +kernel
theorem f_93_39 : mFetch 93 39 = some (.iload_n 2, 1, []) := by decide +kernel
theorem f_93_40 : mFetch 93 40 = some (.invokestatic 70, 3, [123, 2, 1, 0, 90, 559]) := by decide +kernel
theorem f_93_43 : mFetch 93 43 = some (.if_icmp .ge 26, 3, [69]) := by decide +kernel
theorem f_93_46 : mFetch 93 46 = some (.iload_n 3, 1, []) := by decide +kernel
theorem f_93_47 : mFetch 93 47 = some (.aload_n 0, 1, []) := by decide +kernel
theorem f_93_48 : mFetch 93 48 = some (.getfield 24, 3, [8, 4, 0, 190]) := by decide +kernel
theorem f_93_51 : mFetch 93 51 = some (.aload_n 0, 1, []) := by decide +kernel
theorem f_93_52 : mFetch 93 52 = some (.iload_n 2, 1, []) := by decide +kernel
theorem f_93_53 : mFetch 93 53 = some (.iload 4, 2, []) := by decide +kernel
theorem f_93_55 : mFetch 93 55 = some (.invokevirtual 74, 3, [88, 3, 2, 8, 597, 598, 599]) := by decide +kernel
theorem f_93_58 : mFetch 93 58 = some (.invokestatic 70, 3, [123, 2, 1, 0, 90, 559]) := by decide +kernel
theorem f_93_61 : mFetch 93 61 = some (.iadd, 1, []) := by decide +kernel
theorem f_93_62 : mFetch 93 62 = some (.istore_n 3, 1, []) := by decide +kernel
theorem f_93_63 : mFetch 93 63 = some (.iinc 4 1, 3, []) := by decide +kernel
theorem f_93_66 : mFetch 93 66 = some (.goto (-33), 3, [33]) := by decide +kernel
theorem f_93_69 : mFetch 93 69 = some (.aload_n 0, 1, []) := by decide +kernel
theorem f_93_70 : mFetch 93 70 = some (.getfield 33, 3, [8, 7, 0, 199]) := by decide +kernel
theorem f_93_73 : mFetch 93 73 = some (.iload_n 2, 1, []) := by decide +kernel
theorem f_93_74 : mFetch 93 74 = some (.iload_n 3, 1, []) := by decide +kernel
theorem f_93_75 : mFetch 93 75 = some (.invokestatic 96, 3, [124, 3, 1, 0, 91, 689]) := by decide +kernel
theorem f_93_78 : mFetch 93 78 = some (.iinc 2 1, 3, []) := by decide +kernel
theorem f_93_81 : mFetch 93 81 = some (.goto (-71), 3, [10]) := by decide +kernel
theorem f_93_84 : mFetch 93 84 = some (.return_, 1, []) := by decide +kernel
theorem b_93_0 {d : Nat} {a0 : Nat} {a1 : Nat} {w : MW} (h0 : mTg w a0 = 8) (h1 : mR w a0 17 = some (gR w a0 17)) (h2 : mTg w (gR w a0 17) = 1) : mX (d + 1) 93 0 [.ref a0, .ref a1, mJ, mJ, mJ] [] w = mThen (mK d 31 [.ref (gR w a0 17), .ref a1] w) (fun v w9 => mX (d + 1) 93 8 [.ref a0, mJ, mJ, mJ, mJ] (v.toList ++ []) w9) := by
  refine Eq.trans (X_st f_93_0 rfl rfl) ?_
  refine Eq.trans (X_getR f_93_1 h0 rfl h1) ?_
  refine Eq.trans (X_st f_93_4 rfl rfl) ?_
  refine Eq.trans (X_call f_93_5 (by decide) rfl rfl rfl rfl rfl rfl (Nat.le_of_ble_eq_true rfl) (Nat.le_of_ble_eq_true rfl) (decide_eq_true h2) (Nat.le_of_ble_eq_true rfl)) ?_
  exact mThen_eq fun v w9 => mX_mask rfl
theorem e_93 {d : Nat} {a0 : Nat} {a1 : Nat} {w : MW} : mK d 93 [.ref a0, .ref a1] w = mX d 93 0 [.ref a0, .ref a1, mJ, mJ, mJ] [] w := rfl
theorem b_93_8 {d : Nat} {a0 : Nat} {w : MW} : mX d 93 8 [.ref a0, mJ, mJ, mJ, mJ] [] w = mX d 93 10 [.ref a0, mJ, .int (nI 0), mJ, mJ] [] w := by
  refine Eq.trans (X_iconst f_93_8 kc_i_0) ?_
  refine Eq.trans (X_istore_n (L' := [.ref a0, mJ, .int (nI 0), mJ, mJ]) f_93_9 (Nat.le_of_ble_eq_true rfl) rfl) ?_
  exact mX_mask rfl
theorem b_93_10 {d : Nat} {a0 : Nat} {x2 : Int32} {w : MW} (h0 : mTg w a0 = 8) (h1 : mR w a0 0 = some (gR w a0 0)) : mX (d + 1) 93 10 [.ref a0, mJ, .int x2, mJ, mJ] [] w = mThen (mK d 123 [.ref (gR w a0 0), .int (nI 2)] w) (fun v w9 => mX (d + 1) 93 19 [.ref a0, mJ, .int x2, mJ, mJ] (v.toList ++ [.int x2]) w9) := by
  refine Eq.trans (X_st f_93_10 rfl rfl) ?_
  refine Eq.trans (X_st f_93_11 rfl rfl) ?_
  refine Eq.trans (X_getR f_93_12 h0 rfl h1) ?_
  refine Eq.trans (X_iconst f_93_15 kc_i_2) ?_
  refine Eq.trans (X_call f_93_16 (by decide) rfl rfl rfl rfl rfl rfl (Nat.le_of_ble_eq_true rfl) (Nat.le_of_ble_eq_true rfl) rfl (Nat.le_of_ble_eq_true rfl)) ?_
  exact mThen_eq fun v w9 => mX_mask rfl
theorem b_93_19 {d : Nat} {a0 : Nat} {x2 : Int32} {y0 : Int32} {y1 : Int32} {w : MW} : mX d 93 19 [.ref a0, mJ, .int x2, mJ, mJ] [.int y0, .int y1] w = (if y0 ≤ y1 then mX d 93 84 [mJ, mJ, mJ, mJ, mJ] [] w else mX d 93 22 [.ref a0, mJ, .int x2, mJ, mJ] [] w) := by
  refine Eq.trans (X_br f_93_19 rfl rfl) ?_
  exact mIte_eq (mX_mask rfl) (mX_mask rfl)
theorem b_93_22 {d : Nat} {a0 : Nat} {x2 : Int32} {w : MW} (h0 : mTg w a0 = 8) : mX (d + 1) 93 22 [.ref a0, mJ, .int x2, mJ, mJ] [] w = mThen (mK d 89 [.ref a0, .int x2] w) (fun v w9 => mX (d + 1) 93 27 [.ref a0, mJ, .int x2, mJ, mJ] (v.toList ++ []) w9) := by
  refine Eq.trans (X_st f_93_22 rfl rfl) ?_
  refine Eq.trans (X_st f_93_23 rfl rfl) ?_
  refine Eq.trans (X_call f_93_24 (by decide) rfl rfl rfl rfl rfl rfl (Nat.le_of_ble_eq_true rfl) (Nat.le_of_ble_eq_true rfl) (decide_eq_true h0) (Nat.le_of_ble_eq_true rfl)) ?_
  exact mThen_eq fun v w9 => mX_mask rfl
theorem b_93_27 {d : Nat} {a0 : Nat} {x2 : Int32} {y0 : Int32} {w : MW} : mX d 93 27 [.ref a0, mJ, .int x2, mJ, mJ] [.int y0] w = mX d 93 33 [.ref a0, mJ, .int x2, .int (y0 / (nI 4)), .int (nI 0)] [] w := by
  refine Eq.trans (X_iconst f_93_27 kc_i_4) ?_
  refine Eq.trans (X_idiv f_93_28 kz_4) ?_
  refine Eq.trans (X_istore_n (L' := [.ref a0, mJ, .int x2, .int (y0 / (nI 4)), mJ]) f_93_29 (Nat.le_of_ble_eq_true rfl) rfl) ?_
  refine Eq.trans (X_iconst f_93_30 kc_i_0) ?_
  refine Eq.trans (X_istore (L' := [.ref a0, mJ, .int x2, .int (y0 / (nI 4)), .int (nI 0)]) f_93_31 (Nat.le_of_ble_eq_true rfl) rfl) ?_
  exact mX_mask rfl
theorem b_93_33 {d : Nat} {a0 : Nat} {x2 : Int32} {x3 : Int32} {x4 : Int32} {w : MW} (h0 : mTg w a0 = 8) (h1 : mR w a0 5 = some (gR w a0 5)) : mX (d + 1) 93 33 [.ref a0, mJ, .int x2, .int x3, .int x4] [] w = mThen (mK d 123 [.ref (gR w a0 5), .int x2] w) (fun v w9 => mX (d + 1) 93 43 [.ref a0, mJ, .int x2, .int x3, .int x4] (v.toList ++ [.int x4]) w9) := by
  refine Eq.trans (X_st f_93_33 rfl rfl) ?_
  refine Eq.trans (X_st f_93_35 rfl rfl) ?_
  refine Eq.trans (X_getR f_93_36 h0 rfl h1) ?_
  refine Eq.trans (X_st f_93_39 rfl rfl) ?_
  refine Eq.trans (X_call f_93_40 (by decide) rfl rfl rfl rfl rfl rfl (Nat.le_of_ble_eq_true rfl) (Nat.le_of_ble_eq_true rfl) rfl (Nat.le_of_ble_eq_true rfl)) ?_
  exact mThen_eq fun v w9 => mX_mask rfl
theorem b_93_43 {d : Nat} {a0 : Nat} {x2 : Int32} {x3 : Int32} {x4 : Int32} {y0 : Int32} {y1 : Int32} {w : MW} : mX d 93 43 [.ref a0, mJ, .int x2, .int x3, .int x4] [.int y0, .int y1] w = (if y0 ≤ y1 then mX d 93 69 [.ref a0, mJ, .int x2, .int x3, mJ] [] w else mX d 93 46 [.ref a0, mJ, .int x2, .int x3, .int x4] [] w) := by
  refine Eq.trans (X_br f_93_43 rfl rfl) ?_
  exact mIte_eq (mX_mask rfl) (mX_mask rfl)
theorem b_93_46 {d : Nat} {a0 : Nat} {x2 : Int32} {x3 : Int32} {x4 : Int32} {w : MW} (h0 : mTg w a0 = 8) (h1 : mR w a0 4 = some (gR w a0 4)) : mX (d + 1) 93 46 [.ref a0, mJ, .int x2, .int x3, .int x4] [] w = mThen (mK d 88 [.ref a0, .int x2, .int x4] w) (fun v w9 => mX (d + 1) 93 58 [.ref a0, mJ, .int x2, mJ, .int x4] (v.toList ++ [.ref (gR w a0 4), .int x3]) w9) := by
  refine Eq.trans (X_st f_93_46 rfl rfl) ?_
  refine Eq.trans (X_st f_93_47 rfl rfl) ?_
  refine Eq.trans (X_getR f_93_48 h0 rfl h1) ?_
  refine Eq.trans (X_st f_93_51 rfl rfl) ?_
  refine Eq.trans (X_st f_93_52 rfl rfl) ?_
  refine Eq.trans (X_st f_93_53 rfl rfl) ?_
  refine Eq.trans (X_call f_93_55 (by decide) rfl rfl rfl rfl rfl rfl (Nat.le_of_ble_eq_true rfl) (Nat.le_of_ble_eq_true rfl) (decide_eq_true h0) (Nat.le_of_ble_eq_true rfl)) ?_
  exact mThen_eq fun v w9 => mX_mask rfl
theorem b_93_58 {d : Nat} {a0 : Nat} {x2 : Int32} {x4 : Int32} {y0 : Int32} {b1 : Nat} {y2 : Int32} {w : MW} : mX (d + 1) 93 58 [.ref a0, mJ, .int x2, mJ, .int x4] [.int y0, .ref b1, .int y2] w = mThen (mK d 123 [.ref b1, .int y0] w) (fun v w9 => mX (d + 1) 93 61 [.ref a0, mJ, .int x2, mJ, .int x4] (v.toList ++ [.int y2]) w9) := by
  refine Eq.trans (X_call f_93_58 (by decide) rfl rfl rfl rfl rfl rfl (Nat.le_of_ble_eq_true rfl) (Nat.le_of_ble_eq_true rfl) rfl (Nat.le_of_ble_eq_true rfl)) ?_
  exact mThen_eq fun v w9 => mX_mask rfl
theorem b_93_61 {d : Nat} {a0 : Nat} {x2 : Int32} {x4 : Int32} {y0 : Int32} {y1 : Int32} {w : MW} : mX d 93 61 [.ref a0, mJ, .int x2, mJ, .int x4] [.int y0, .int y1] w = mX d 93 33 [.ref a0, mJ, .int x2, .int (y1 + y0), .int (x4 + (nI 1))] [] w := by
  refine Eq.trans (X_st f_93_61 rfl rfl) ?_
  refine Eq.trans (X_istore_n (L' := [.ref a0, mJ, .int x2, .int (y1 + y0), .int x4]) f_93_62 (Nat.le_of_ble_eq_true rfl) rfl) ?_
  refine Eq.trans (X_iinc f_93_63 kc_i_1 rfl rfl) ?_
  refine Eq.trans (X_st f_93_66 rfl rfl) ?_
  exact mX_mask rfl
theorem b_93_69 {d : Nat} {a0 : Nat} {x2 : Int32} {x3 : Int32} {w : MW} (h0 : mTg w a0 = 8) (h1 : mR w a0 7 = some (gR w a0 7)) : mX (d + 1) 93 69 [.ref a0, mJ, .int x2, .int x3, mJ] [] w = mThen (mK d 124 [.ref (gR w a0 7), .int x2, .int x3] w) (fun v w9 => mX (d + 1) 93 78 [.ref a0, mJ, .int x2, mJ, mJ] (v.toList ++ []) w9) := by
  refine Eq.trans (X_st f_93_69 rfl rfl) ?_
  refine Eq.trans (X_getR f_93_70 h0 rfl h1) ?_
  refine Eq.trans (X_st f_93_73 rfl rfl) ?_
  refine Eq.trans (X_st f_93_74 rfl rfl) ?_
  refine Eq.trans (X_call f_93_75 (by decide) rfl rfl rfl rfl rfl rfl (Nat.le_of_ble_eq_true rfl) (Nat.le_of_ble_eq_true rfl) rfl (Nat.le_of_ble_eq_true rfl)) ?_
  exact mThen_eq fun v w9 => mX_mask rfl
theorem b_93_78 {d : Nat} {a0 : Nat} {x2 : Int32} {w : MW} : mX d 93 78 [.ref a0, mJ, .int x2, mJ, mJ] [] w = mX d 93 10 [.ref a0, mJ, .int (x2 + (nI 1)), mJ, mJ] [] w := by
  refine Eq.trans (X_iinc f_93_78 kc_i_1 rfl rfl) ?_
  refine Eq.trans (X_st f_93_81 rfl rfl) ?_
  exact mX_mask rfl
theorem b_93_84 {d : Nat} {w : MW} : mX d 93 84 [mJ, mJ, mJ, mJ, mJ] [] w = some (.inl none, w) := by
  exact X_ret f_93_84 rfl rfl
/-! BeeTurnpike$Told copyFrom (LBeeTurnpike$Told;)V -/
theorem f_94_0 : mFetch 94 0 = some (.aload_n 1, 1, []) := by decide +kernel
theorem f_94_1 : mFetch 94 1 = some (.getfield 9, 3, [8, 0, 0, 177]) := by decide +kernel
theorem f_94_4 : mFetch 94 4 = some (.aload_n 0, 1, []) := by decide +kernel
theorem f_94_5 : mFetch 94 5 = some (.getfield 9, 3, [8, 0, 0, 177]) := by decide +kernel
theorem f_94_8 : mFetch 94 8 = some (.invokestatic 100, 3, [125, 2, 1, 0, 92, 771]) := by decide +kernel
theorem f_94_11 : mFetch 94 11 = some (.aload_n 1, 1, []) := by decide +kernel
theorem f_94_12 : mFetch 94 12 = some (.getfield 15, 3, [8, 1, 0, 179]) := by decide +kernel
theorem f_94_15 : mFetch 94 15 = some (.aload_n 0, 1, []) := by decide +kernel
theorem f_94_16 : mFetch 94 16 = some (.getfield 15, 3, [8, 1, 0, 179]) := by decide +kernel
theorem f_94_19 : mFetch 94 19 = some (.invokestatic 100, 3, [125, 2, 1, 0, 92, 771]) := by decide +kernel
theorem f_94_22 : mFetch 94 22 = some (.aload_n 1, 1, []) := by decide +kernel
theorem f_94_23 : mFetch 94 23 = some (.getfield 18, 3, [8, 2, 0, 183]) := by decide +kernel
theorem f_94_26 : mFetch 94 26 = some (.aload_n 0, 1, []) := by decide +kernel
theorem f_94_27 : mFetch 94 27 = some (.getfield 18, 3, [8, 2, 0, 183]) := by decide +kernel
theorem f_94_30 : mFetch 94 30 = some (.invokestatic 100, 3, [125, 2, 1, 0, 92, 771]) := by decide +kernel
theorem f_94_33 : mFetch 94 33 = some (.aload_n 1, 1, []) := by decide +kernel
theorem f_94_34 : mFetch 94 34 = some (.getfield 21, 3, [8, 3, 0, 187]) := by decide +kernel
theorem f_94_37 : mFetch 94 37 = some (.aload_n 0, 1, []) := by decide +kernel
theorem f_94_38 : mFetch 94 38 = some (.getfield 21, 3, [8, 3, 0, 187]) := by decide +kernel
theorem f_94_41 : mFetch 94 41 = some (.invokestatic 100, 3, [125, 2, 1, 0, 92, 771]) := by decide +kernel
theorem f_94_44 : mFetch 94 44 = some (.aload_n 1, 1, []) := by decide +kernel
theorem f_94_45 : mFetch 94 45 = some (.getfield 24, 3, [8, 4, 0, 190]) := by decide +kernel
theorem f_94_48 : mFetch 94 48 = some (.aload_n 0, 1, []) := by decide +kernel
theorem f_94_49 : mFetch 94 49 = some (.getfield 24, 3, [8, 4, 0, 190]) := by decide +kernel
theorem f_94_52 : mFetch 94 52 = some (.invokestatic 100, 3, [125, 2, 1, 0, 92, 771]) := by decide +kernel
theorem f_94_55 : mFetch 94 55 = some (.aload_n 1, 1, []) := by decide +kernel
theorem f_94_56 : mFetch 94 56 = some (.getfield 27, 3, [8, 5, 0, 193]) := by decide +kernel
theorem f_94_59 : mFetch 94 59 = some (.aload_n 0, 1, []) := by decide +kernel
theorem f_94_60 : mFetch 94 60 = some (.getfield 27, 3, [8, 5, 0, 193]) := by decide +kernel
theorem f_94_63 : mFetch 94 63 = some (.invokestatic 100, 3, [125, 2, 1, 0, 92, 771]) := by decide +kernel
theorem f_94_66 : mFetch 94 66 = some (.aload_n 1, 1, []) := by decide +kernel
theorem f_94_67 : mFetch 94 67 = some (.getfield 30, 3, [8, 6, 0, 197]) := by decide +kernel
theorem f_94_70 : mFetch 94 70 = some (.aload_n 0, 1, []) := by decide +kernel
theorem f_94_71 : mFetch 94 71 = some (.getfield 30, 3, [8, 6, 0, 197]) := by decide +kernel
theorem f_94_74 : mFetch 94 74 = some (.invokestatic 100, 3, [125, 2, 1, 0, 92, 771]) := by decide +kernel
theorem f_94_77 : mFetch 94 77 = some (.aload_n 1, 1, []) := by decide +kernel
theorem f_94_78 : mFetch 94 78 = some (.getfield 33, 3, [8, 7, 0, 199]) := by decide +kernel
theorem f_94_81 : mFetch 94 81 = some (.aload_n 0, 1, []) := by decide +kernel
theorem f_94_82 : mFetch 94 82 = some (.getfield 33, 3, [8, 7, 0, 199]) := by decide +kernel
theorem f_94_85 : mFetch 94 85 = some (.invokestatic 100, 3, [125, 2, 1, 0, 92, 771]) := by decide +kernel
theorem f_94_88 : mFetch 94 88 = some (.aload_n 1, 1, []) := by decide +kernel
theorem f_94_89 : mFetch 94 89 = some (.getfield 36, 3, [8, 8, 0, 200]) := by decide +kernel
theorem f_94_92 : mFetch 94 92 = some (.aload_n 0, 1, []) := by decide +kernel
theorem f_94_93 : mFetch 94 93 = some (.getfield 36, 3, [8, 8, 0, 200]) := by decide +kernel
theorem f_94_96 : mFetch 94 96 = some (.invokestatic 100, 3, [125, 2, 1, 0, 92, 771]) := by decide +kernel
theorem f_94_99 : mFetch 94 99 = some (.aload_n 1, 1, []) := by decide +kernel
theorem f_94_100 : mFetch 94 100 = some (.getfield 39, 3, [8, 9, 0, 203]) := by decide +kernel
theorem f_94_103 : mFetch 94 103 = some (.aload_n 0, 1, []) := by decide +kernel
theorem f_94_104 : mFetch 94 104 = some (.getfield 39, 3, [8, 9, 0, 203]) := by decide +kernel
theorem f_94_107 : mFetch 94 107 = some (.invokestatic 100, 3, [125, 2, 1, 0, 92, 771]) := by decide +kernel
theorem f_94_110 : mFetch 94 110 = some (.aload_n 1, 1, []) := by decide +kernel
theorem f_94_111 : mFetch 94 111 = some (.getfield 42, 3, [8, 10, 0, 206]) := by decide +kernel
theorem f_94_114 : mFetch 94 114 = some (.aload_n 0, 1, []) := by decide +kernel
theorem f_94_115 : mFetch 94 115 = some (.getfield 42, 3, [8, 10, 0, 206]) := by decide +kernel
theorem f_94_118 : mFetch 94 118 = some (.invokestatic 100, 3, [125, 2, 1, 0, 92, 771]) := by decide +kernel
theorem f_94_121 : mFetch 94 121 = some (.aload_n 1, 1, []) := by decide +kernel
theorem f_94_122 : mFetch 94 122 = some (.getfield 45, 3, [8, 11, 0, 209]) := by decide +kernel
theorem f_94_125 : mFetch 94 125 = some (.aload_n 0, 1, []) := by decide +kernel
theorem f_94_126 : mFetch 94 126 = some (.getfield 45, 3, [8, 11, 0, 209]) := by decide +kernel
theorem f_94_129 : mFetch 94 129 = some (.invokestatic 100, 3, [125, 2, 1, 0, 92, 771]) := by decide +kernel
theorem f_94_132 : mFetch 94 132 = some (.aload_n 1, 1, []) := by decide +kernel
theorem f_94_133 : mFetch 94 133 = some (.getfield 48, 3, [8, 12, 0, 212]) := by decide +kernel
theorem f_94_136 : mFetch 94 136 = some (.aload_n 0, 1, []) := by decide +kernel
theorem f_94_137 : mFetch 94 137 = some (.getfield 48, 3, [8, 12, 0, 212]) := by decide +kernel
theorem f_94_140 : mFetch 94 140 = some (.invokestatic 100, 3, [125, 2, 1, 0, 92, 771]) := by decide +kernel
theorem f_94_143 : mFetch 94 143 = some (.aload_n 1, 1, []) := by decide +kernel
theorem f_94_144 : mFetch 94 144 = some (.getfield 51, 3, [8, 13, 0, 215]) := by decide +kernel
theorem f_94_147 : mFetch 94 147 = some (.aload_n 0, 1, []) := by decide +kernel
theorem f_94_148 : mFetch 94 148 = some (.getfield 51, 3, [8, 13, 0, 215]) := by decide +kernel
theorem f_94_151 : mFetch 94 151 = some (.invokestatic 100, 3, [125, 2, 1, 0, 92, 771]) := by decide +kernel
theorem f_94_154 : mFetch 94 154 = some (.aload_n 1, 1, []) := by decide +kernel
theorem f_94_155 : mFetch 94 155 = some (.getfield 54, 3, [8, 14, 0, 218]) := by decide +kernel
theorem f_94_158 : mFetch 94 158 = some (.aload_n 0, 1, []) := by decide +kernel
theorem f_94_159 : mFetch 94 159 = some (.getfield 54, 3, [8, 14, 0, 218]) := by decide +kernel
theorem f_94_162 : mFetch 94 162 = some (.invokestatic 100, 3, [125, 2, 1, 0, 92, 771]) := by decide +kernel
theorem f_94_165 : mFetch 94 165 = some (.aload_n 1, 1, []) := by decide +kernel
theorem f_94_166 : mFetch 94 166 = some (.getfield 57, 3, [8, 15, 0, 221]) := by decide +kernel
theorem f_94_169 : mFetch 94 169 = some (.aload_n 0, 1, []) := by decide +kernel
theorem f_94_170 : mFetch 94 170 = some (.getfield 57, 3, [8, 15, 0, 221]) := by decide +kernel
theorem f_94_173 : mFetch 94 173 = some (.invokestatic 100, 3, [125, 2, 1, 0, 92, 771]) := by decide +kernel
theorem f_94_176 : mFetch 94 176 = some (.aload_n 1, 1, []) := by decide +kernel
theorem f_94_177 : mFetch 94 177 = some (.getfield 60, 3, [8, 16, 0, 224]) := by decide +kernel
theorem f_94_180 : mFetch 94 180 = some (.aload_n 0, 1, []) := by decide +kernel
theorem f_94_181 : mFetch 94 181 = some (.getfield 60, 3, [8, 16, 0, 224]) := by decide +kernel
theorem f_94_184 : mFetch 94 184 = some (.invokestatic 100, 3, [125, 2, 1, 0, 92, 771]) := by decide +kernel
theorem f_94_187 : mFetch 94 187 = some (.aload_n 0, 1, []) := by decide +kernel
theorem f_94_188 : mFetch 94 188 = some (.getfield 66, 3, [8, 17, 0, 228]) := by decide +kernel
theorem f_94_191 : mFetch 94 191 = some (.aload_n 1, 1, []) := by decide +kernel
theorem f_94_192 : mFetch 94 192 = some (.getfield 66, 3, [8, 17, 0, 228]) := by decide +kernel
theorem f_94_195 : mFetch 94 195 = some (.invokevirtual 104, 3, [32, 2, 2, 1, 1300, 1301, 1302]) := by decide +kernel
theorem f_94_198 : mFetch 94 198 = some (.return_, 1, []) := by decide +kernel
theorem b_94_0 {d : Nat} {a0 : Nat} {a1 : Nat} {w : MW} (h0 : mTg w a1 = 8) (h1 : mR w a1 0 = some (gR w a1 0)) (h2 : mTg w a0 = 8) (h3 : mR w a0 0 = some (gR w a0 0)) : mX (d + 1) 94 0 [.ref a0, .ref a1] [] w = mThen (mK d 125 [.ref (gR w a1 0), .ref (gR w a0 0)] w) (fun v w9 => mX (d + 1) 94 11 [.ref a0, .ref a1] (v.toList ++ []) w9) := by
  refine Eq.trans (X_st f_94_0 rfl rfl) ?_
  refine Eq.trans (X_getR f_94_1 h0 rfl h1) ?_
  refine Eq.trans (X_st f_94_4 rfl rfl) ?_
  refine Eq.trans (X_getR f_94_5 h2 rfl h3) ?_
  refine Eq.trans (X_call f_94_8 (by decide) rfl rfl rfl rfl rfl rfl (Nat.le_of_ble_eq_true rfl) (Nat.le_of_ble_eq_true rfl) rfl (Nat.le_of_ble_eq_true rfl)) ?_
  exact mThen_eq fun v w9 => mX_mask rfl
theorem e_94 {d : Nat} {a0 : Nat} {a1 : Nat} {w : MW} : mK d 94 [.ref a0, .ref a1] w = mX d 94 0 [.ref a0, .ref a1] [] w := rfl
theorem b_94_11 {d : Nat} {a0 : Nat} {a1 : Nat} {w : MW} (h0 : mTg w a1 = 8) (h1 : mR w a1 1 = some (gR w a1 1)) (h2 : mTg w a0 = 8) (h3 : mR w a0 1 = some (gR w a0 1)) : mX (d + 1) 94 11 [.ref a0, .ref a1] [] w = mThen (mK d 125 [.ref (gR w a1 1), .ref (gR w a0 1)] w) (fun v w9 => mX (d + 1) 94 22 [.ref a0, .ref a1] (v.toList ++ []) w9) := by
  refine Eq.trans (X_st f_94_11 rfl rfl) ?_
  refine Eq.trans (X_getR f_94_12 h0 rfl h1) ?_
  refine Eq.trans (X_st f_94_15 rfl rfl) ?_
  refine Eq.trans (X_getR f_94_16 h2 rfl h3) ?_
  refine Eq.trans (X_call f_94_19 (by decide) rfl rfl rfl rfl rfl rfl (Nat.le_of_ble_eq_true rfl) (Nat.le_of_ble_eq_true rfl) rfl (Nat.le_of_ble_eq_true rfl)) ?_
  exact mThen_eq fun v w9 => mX_mask rfl
theorem b_94_22 {d : Nat} {a0 : Nat} {a1 : Nat} {w : MW} (h0 : mTg w a1 = 8) (h1 : mR w a1 2 = some (gR w a1 2)) (h2 : mTg w a0 = 8) (h3 : mR w a0 2 = some (gR w a0 2)) : mX (d + 1) 94 22 [.ref a0, .ref a1] [] w = mThen (mK d 125 [.ref (gR w a1 2), .ref (gR w a0 2)] w) (fun v w9 => mX (d + 1) 94 33 [.ref a0, .ref a1] (v.toList ++ []) w9) := by
  refine Eq.trans (X_st f_94_22 rfl rfl) ?_
  refine Eq.trans (X_getR f_94_23 h0 rfl h1) ?_
  refine Eq.trans (X_st f_94_26 rfl rfl) ?_
  refine Eq.trans (X_getR f_94_27 h2 rfl h3) ?_
  refine Eq.trans (X_call f_94_30 (by decide) rfl rfl rfl rfl rfl rfl (Nat.le_of_ble_eq_true rfl) (Nat.le_of_ble_eq_true rfl) rfl (Nat.le_of_ble_eq_true rfl)) ?_
  exact mThen_eq fun v w9 => mX_mask rfl
theorem b_94_33 {d : Nat} {a0 : Nat} {a1 : Nat} {w : MW} (h0 : mTg w a1 = 8) (h1 : mR w a1 3 = some (gR w a1 3)) (h2 : mTg w a0 = 8) (h3 : mR w a0 3 = some (gR w a0 3)) : mX (d + 1) 94 33 [.ref a0, .ref a1] [] w = mThen (mK d 125 [.ref (gR w a1 3), .ref (gR w a0 3)] w) (fun v w9 => mX (d + 1) 94 44 [.ref a0, .ref a1] (v.toList ++ []) w9) := by
  refine Eq.trans (X_st f_94_33 rfl rfl) ?_
  refine Eq.trans (X_getR f_94_34 h0 rfl h1) ?_
  refine Eq.trans (X_st f_94_37 rfl rfl) ?_
  refine Eq.trans (X_getR f_94_38 h2 rfl h3) ?_
  refine Eq.trans (X_call f_94_41 (by decide) rfl rfl rfl rfl rfl rfl (Nat.le_of_ble_eq_true rfl) (Nat.le_of_ble_eq_true rfl) rfl (Nat.le_of_ble_eq_true rfl)) ?_
  exact mThen_eq fun v w9 => mX_mask rfl
theorem b_94_44 {d : Nat} {a0 : Nat} {a1 : Nat} {w : MW} (h0 : mTg w a1 = 8) (h1 : mR w a1 4 = some (gR w a1 4)) (h2 : mTg w a0 = 8) (h3 : mR w a0 4 = some (gR w a0 4)) : mX (d + 1) 94 44 [.ref a0, .ref a1] [] w = mThen (mK d 125 [.ref (gR w a1 4), .ref (gR w a0 4)] w) (fun v w9 => mX (d + 1) 94 55 [.ref a0, .ref a1] (v.toList ++ []) w9) := by
  refine Eq.trans (X_st f_94_44 rfl rfl) ?_
  refine Eq.trans (X_getR f_94_45 h0 rfl h1) ?_
  refine Eq.trans (X_st f_94_48 rfl rfl) ?_
  refine Eq.trans (X_getR f_94_49 h2 rfl h3) ?_
  refine Eq.trans (X_call f_94_52 (by decide) rfl rfl rfl rfl rfl rfl (Nat.le_of_ble_eq_true rfl) (Nat.le_of_ble_eq_true rfl) rfl (Nat.le_of_ble_eq_true rfl)) ?_
  exact mThen_eq fun v w9 => mX_mask rfl
theorem b_94_55 {d : Nat} {a0 : Nat} {a1 : Nat} {w : MW} (h0 : mTg w a1 = 8) (h1 : mR w a1 5 = some (gR w a1 5)) (h2 : mTg w a0 = 8) (h3 : mR w a0 5 = some (gR w a0 5)) : mX (d + 1) 94 55 [.ref a0, .ref a1] [] w = mThen (mK d 125 [.ref (gR w a1 5), .ref (gR w a0 5)] w) (fun v w9 => mX (d + 1) 94 66 [.ref a0, .ref a1] (v.toList ++ []) w9) := by
  refine Eq.trans (X_st f_94_55 rfl rfl) ?_
  refine Eq.trans (X_getR f_94_56 h0 rfl h1) ?_
  refine Eq.trans (X_st f_94_59 rfl rfl) ?_
  refine Eq.trans (X_getR f_94_60 h2 rfl h3) ?_
  refine Eq.trans (X_call f_94_63 (by decide) rfl rfl rfl rfl rfl rfl (Nat.le_of_ble_eq_true rfl) (Nat.le_of_ble_eq_true rfl) rfl (Nat.le_of_ble_eq_true rfl)) ?_
  exact mThen_eq fun v w9 => mX_mask rfl
theorem b_94_66 {d : Nat} {a0 : Nat} {a1 : Nat} {w : MW} (h0 : mTg w a1 = 8) (h1 : mR w a1 6 = some (gR w a1 6)) (h2 : mTg w a0 = 8) (h3 : mR w a0 6 = some (gR w a0 6)) : mX (d + 1) 94 66 [.ref a0, .ref a1] [] w = mThen (mK d 125 [.ref (gR w a1 6), .ref (gR w a0 6)] w) (fun v w9 => mX (d + 1) 94 77 [.ref a0, .ref a1] (v.toList ++ []) w9) := by
  refine Eq.trans (X_st f_94_66 rfl rfl) ?_
  refine Eq.trans (X_getR f_94_67 h0 rfl h1) ?_
  refine Eq.trans (X_st f_94_70 rfl rfl) ?_
  refine Eq.trans (X_getR f_94_71 h2 rfl h3) ?_
  refine Eq.trans (X_call f_94_74 (by decide) rfl rfl rfl rfl rfl rfl (Nat.le_of_ble_eq_true rfl) (Nat.le_of_ble_eq_true rfl) rfl (Nat.le_of_ble_eq_true rfl)) ?_
  exact mThen_eq fun v w9 => mX_mask rfl
theorem b_94_77 {d : Nat} {a0 : Nat} {a1 : Nat} {w : MW} (h0 : mTg w a1 = 8) (h1 : mR w a1 7 = some (gR w a1 7)) (h2 : mTg w a0 = 8) (h3 : mR w a0 7 = some (gR w a0 7)) : mX (d + 1) 94 77 [.ref a0, .ref a1] [] w = mThen (mK d 125 [.ref (gR w a1 7), .ref (gR w a0 7)] w) (fun v w9 => mX (d + 1) 94 88 [.ref a0, .ref a1] (v.toList ++ []) w9) := by
  refine Eq.trans (X_st f_94_77 rfl rfl) ?_
  refine Eq.trans (X_getR f_94_78 h0 rfl h1) ?_
  refine Eq.trans (X_st f_94_81 rfl rfl) ?_
  refine Eq.trans (X_getR f_94_82 h2 rfl h3) ?_
  refine Eq.trans (X_call f_94_85 (by decide) rfl rfl rfl rfl rfl rfl (Nat.le_of_ble_eq_true rfl) (Nat.le_of_ble_eq_true rfl) rfl (Nat.le_of_ble_eq_true rfl)) ?_
  exact mThen_eq fun v w9 => mX_mask rfl
theorem b_94_88 {d : Nat} {a0 : Nat} {a1 : Nat} {w : MW} (h0 : mTg w a1 = 8) (h1 : mR w a1 8 = some (gR w a1 8)) (h2 : mTg w a0 = 8) (h3 : mR w a0 8 = some (gR w a0 8)) : mX (d + 1) 94 88 [.ref a0, .ref a1] [] w = mThen (mK d 125 [.ref (gR w a1 8), .ref (gR w a0 8)] w) (fun v w9 => mX (d + 1) 94 99 [.ref a0, .ref a1] (v.toList ++ []) w9) := by
  refine Eq.trans (X_st f_94_88 rfl rfl) ?_
  refine Eq.trans (X_getR f_94_89 h0 rfl h1) ?_
  refine Eq.trans (X_st f_94_92 rfl rfl) ?_
  refine Eq.trans (X_getR f_94_93 h2 rfl h3) ?_
  refine Eq.trans (X_call f_94_96 (by decide) rfl rfl rfl rfl rfl rfl (Nat.le_of_ble_eq_true rfl) (Nat.le_of_ble_eq_true rfl) rfl (Nat.le_of_ble_eq_true rfl)) ?_
  exact mThen_eq fun v w9 => mX_mask rfl
theorem b_94_99 {d : Nat} {a0 : Nat} {a1 : Nat} {w : MW} (h0 : mTg w a1 = 8) (h1 : mR w a1 9 = some (gR w a1 9)) (h2 : mTg w a0 = 8) (h3 : mR w a0 9 = some (gR w a0 9)) : mX (d + 1) 94 99 [.ref a0, .ref a1] [] w = mThen (mK d 125 [.ref (gR w a1 9), .ref (gR w a0 9)] w) (fun v w9 => mX (d + 1) 94 110 [.ref a0, .ref a1] (v.toList ++ []) w9) := by
  refine Eq.trans (X_st f_94_99 rfl rfl) ?_
  refine Eq.trans (X_getR f_94_100 h0 rfl h1) ?_
  refine Eq.trans (X_st f_94_103 rfl rfl) ?_
  refine Eq.trans (X_getR f_94_104 h2 rfl h3) ?_
  refine Eq.trans (X_call f_94_107 (by decide) rfl rfl rfl rfl rfl rfl (Nat.le_of_ble_eq_true rfl) (Nat.le_of_ble_eq_true rfl) rfl (Nat.le_of_ble_eq_true rfl)) ?_
  exact mThen_eq fun v w9 => mX_mask rfl
theorem b_94_110 {d : Nat} {a0 : Nat} {a1 : Nat} {w : MW} (h0 : mTg w a1 = 8) (h1 : mR w a1 10 = some (gR w a1 10)) (h2 : mTg w a0 = 8) (h3 : mR w a0 10 = some (gR w a0 10)) : mX (d + 1) 94 110 [.ref a0, .ref a1] [] w = mThen (mK d 125 [.ref (gR w a1 10), .ref (gR w a0 10)] w) (fun v w9 => mX (d + 1) 94 121 [.ref a0, .ref a1] (v.toList ++ []) w9) := by
  refine Eq.trans (X_st f_94_110 rfl rfl) ?_
  refine Eq.trans (X_getR f_94_111 h0 rfl h1) ?_
  refine Eq.trans (X_st f_94_114 rfl rfl) ?_
  refine Eq.trans (X_getR f_94_115 h2 rfl h3) ?_
  refine Eq.trans (X_call f_94_118 (by decide) rfl rfl rfl rfl rfl rfl (Nat.le_of_ble_eq_true rfl) (Nat.le_of_ble_eq_true rfl) rfl (Nat.le_of_ble_eq_true rfl)) ?_
  exact mThen_eq fun v w9 => mX_mask rfl
theorem b_94_121 {d : Nat} {a0 : Nat} {a1 : Nat} {w : MW} (h0 : mTg w a1 = 8) (h1 : mR w a1 11 = some (gR w a1 11)) (h2 : mTg w a0 = 8) (h3 : mR w a0 11 = some (gR w a0 11)) : mX (d + 1) 94 121 [.ref a0, .ref a1] [] w = mThen (mK d 125 [.ref (gR w a1 11), .ref (gR w a0 11)] w) (fun v w9 => mX (d + 1) 94 132 [.ref a0, .ref a1] (v.toList ++ []) w9) := by
  refine Eq.trans (X_st f_94_121 rfl rfl) ?_
  refine Eq.trans (X_getR f_94_122 h0 rfl h1) ?_
  refine Eq.trans (X_st f_94_125 rfl rfl) ?_
  refine Eq.trans (X_getR f_94_126 h2 rfl h3) ?_
  refine Eq.trans (X_call f_94_129 (by decide) rfl rfl rfl rfl rfl rfl (Nat.le_of_ble_eq_true rfl) (Nat.le_of_ble_eq_true rfl) rfl (Nat.le_of_ble_eq_true rfl)) ?_
  exact mThen_eq fun v w9 => mX_mask rfl
theorem b_94_132 {d : Nat} {a0 : Nat} {a1 : Nat} {w : MW} (h0 : mTg w a1 = 8) (h1 : mR w a1 12 = some (gR w a1 12)) (h2 : mTg w a0 = 8) (h3 : mR w a0 12 = some (gR w a0 12)) : mX (d + 1) 94 132 [.ref a0, .ref a1] [] w = mThen (mK d 125 [.ref (gR w a1 12), .ref (gR w a0 12)] w) (fun v w9 => mX (d + 1) 94 143 [.ref a0, .ref a1] (v.toList ++ []) w9) := by
  refine Eq.trans (X_st f_94_132 rfl rfl) ?_
  refine Eq.trans (X_getR f_94_133 h0 rfl h1) ?_
  refine Eq.trans (X_st f_94_136 rfl rfl) ?_
  refine Eq.trans (X_getR f_94_137 h2 rfl h3) ?_
  refine Eq.trans (X_call f_94_140 (by decide) rfl rfl rfl rfl rfl rfl (Nat.le_of_ble_eq_true rfl) (Nat.le_of_ble_eq_true rfl) rfl (Nat.le_of_ble_eq_true rfl)) ?_
  exact mThen_eq fun v w9 => mX_mask rfl
theorem b_94_143 {d : Nat} {a0 : Nat} {a1 : Nat} {w : MW} (h0 : mTg w a1 = 8) (h1 : mR w a1 13 = some (gR w a1 13)) (h2 : mTg w a0 = 8) (h3 : mR w a0 13 = some (gR w a0 13)) : mX (d + 1) 94 143 [.ref a0, .ref a1] [] w = mThen (mK d 125 [.ref (gR w a1 13), .ref (gR w a0 13)] w) (fun v w9 => mX (d + 1) 94 154 [.ref a0, .ref a1] (v.toList ++ []) w9) := by
  refine Eq.trans (X_st f_94_143 rfl rfl) ?_
  refine Eq.trans (X_getR f_94_144 h0 rfl h1) ?_
  refine Eq.trans (X_st f_94_147 rfl rfl) ?_
  refine Eq.trans (X_getR f_94_148 h2 rfl h3) ?_
  refine Eq.trans (X_call f_94_151 (by decide) rfl rfl rfl rfl rfl rfl (Nat.le_of_ble_eq_true rfl) (Nat.le_of_ble_eq_true rfl) rfl (Nat.le_of_ble_eq_true rfl)) ?_
  exact mThen_eq fun v w9 => mX_mask rfl
theorem b_94_154 {d : Nat} {a0 : Nat} {a1 : Nat} {w : MW} (h0 : mTg w a1 = 8) (h1 : mR w a1 14 = some (gR w a1 14)) (h2 : mTg w a0 = 8) (h3 : mR w a0 14 = some (gR w a0 14)) : mX (d + 1) 94 154 [.ref a0, .ref a1] [] w = mThen (mK d 125 [.ref (gR w a1 14), .ref (gR w a0 14)] w) (fun v w9 => mX (d + 1) 94 165 [.ref a0, .ref a1] (v.toList ++ []) w9) := by
  refine Eq.trans (X_st f_94_154 rfl rfl) ?_
  refine Eq.trans (X_getR f_94_155 h0 rfl h1) ?_
  refine Eq.trans (X_st f_94_158 rfl rfl) ?_
  refine Eq.trans (X_getR f_94_159 h2 rfl h3) ?_
  refine Eq.trans (X_call f_94_162 (by decide) rfl rfl rfl rfl rfl rfl (Nat.le_of_ble_eq_true rfl) (Nat.le_of_ble_eq_true rfl) rfl (Nat.le_of_ble_eq_true rfl)) ?_
  exact mThen_eq fun v w9 => mX_mask rfl
theorem b_94_165 {d : Nat} {a0 : Nat} {a1 : Nat} {w : MW} (h0 : mTg w a1 = 8) (h1 : mR w a1 15 = some (gR w a1 15)) (h2 : mTg w a0 = 8) (h3 : mR w a0 15 = some (gR w a0 15)) : mX (d + 1) 94 165 [.ref a0, .ref a1] [] w = mThen (mK d 125 [.ref (gR w a1 15), .ref (gR w a0 15)] w) (fun v w9 => mX (d + 1) 94 176 [.ref a0, .ref a1] (v.toList ++ []) w9) := by
  refine Eq.trans (X_st f_94_165 rfl rfl) ?_
  refine Eq.trans (X_getR f_94_166 h0 rfl h1) ?_
  refine Eq.trans (X_st f_94_169 rfl rfl) ?_
  refine Eq.trans (X_getR f_94_170 h2 rfl h3) ?_
  refine Eq.trans (X_call f_94_173 (by decide) rfl rfl rfl rfl rfl rfl (Nat.le_of_ble_eq_true rfl) (Nat.le_of_ble_eq_true rfl) rfl (Nat.le_of_ble_eq_true rfl)) ?_
  exact mThen_eq fun v w9 => mX_mask rfl
theorem b_94_176 {d : Nat} {a0 : Nat} {a1 : Nat} {w : MW} (h0 : mTg w a1 = 8) (h1 : mR w a1 16 = some (gR w a1 16)) (h2 : mTg w a0 = 8) (h3 : mR w a0 16 = some (gR w a0 16)) : mX (d + 1) 94 176 [.ref a0, .ref a1] [] w = mThen (mK d 125 [.ref (gR w a1 16), .ref (gR w a0 16)] w) (fun v w9 => mX (d + 1) 94 187 [.ref a0, .ref a1] (v.toList ++ []) w9) := by
  refine Eq.trans (X_st f_94_176 rfl rfl) ?_
  refine Eq.trans (X_getR f_94_177 h0 rfl h1) ?_
  refine Eq.trans (X_st f_94_180 rfl rfl) ?_
  refine Eq.trans (X_getR f_94_181 h2 rfl h3) ?_
  refine Eq.trans (X_call f_94_184 (by decide) rfl rfl rfl rfl rfl rfl (Nat.le_of_ble_eq_true rfl) (Nat.le_of_ble_eq_true rfl) rfl (Nat.le_of_ble_eq_true rfl)) ?_
  exact mThen_eq fun v w9 => mX_mask rfl
theorem b_94_187 {d : Nat} {a0 : Nat} {a1 : Nat} {w : MW} (h0 : mTg w a0 = 8) (h1 : mR w a0 17 = some (gR w a0 17)) (h2 : mTg w a1 = 8) (h3 : mR w a1 17 = some (gR w a1 17)) (h4 : mTg w (gR w a0 17) = 1) : mX (d + 1) 94 187 [.ref a0, .ref a1] [] w = mThen (mK d 32 [.ref (gR w a0 17), .ref (gR w a1 17)] w) (fun v w9 => mX (d + 1) 94 198 [mJ, mJ] (v.toList ++ []) w9) := by
  refine Eq.trans (X_st f_94_187 rfl rfl) ?_
  refine Eq.trans (X_getR f_94_188 h0 rfl h1) ?_
  refine Eq.trans (X_st f_94_191 rfl rfl) ?_
  refine Eq.trans (X_getR f_94_192 h2 rfl h3) ?_
  refine Eq.trans (X_call f_94_195 (by decide) rfl rfl rfl rfl rfl rfl (Nat.le_of_ble_eq_true rfl) (Nat.le_of_ble_eq_true rfl) (decide_eq_true h4) (Nat.le_of_ble_eq_true rfl)) ?_
  exact mThen_eq fun v w9 => mX_mask rfl
theorem b_94_198 {d : Nat} {w : MW} : mX d 94 198 [mJ, mJ] [] w = some (.inl none, w) := by
  exact X_ret f_94_198 rfl rfl
