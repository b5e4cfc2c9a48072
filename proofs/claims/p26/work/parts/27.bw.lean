/-! ===== the class's cells: by program (wip/p26/mkbw.py) ===== -/
/-- a told list at t -/
def tT (w : MW) (t : Nat) : Prop :=
  (mTg w t = 8) ∧
  (mTg w (t + 1) = 50) ∧
  (mLn w (t + 1) = 6) ∧
  (mTg w (t + 2) = 50) ∧
  (mLn w (t + 2) = 5) ∧
  (mTg w (t + 3) = 50) ∧
  (mLn w (t + 3) = 10) ∧
  (mTg w (t + 4) = 50) ∧
  (mLn w (t + 4) = 10) ∧
  (mTg w (t + 5) = 50) ∧
  (mLn w (t + 5) = 10) ∧
  (mTg w (t + 6) = 50) ∧
  (mLn w (t + 6) = 12) ∧
  (mTg w (t + 7) = 50) ∧
  (mLn w (t + 7) = 48) ∧
  (mTg w (t + 8) = 50) ∧
  (mLn w (t + 8) = 12) ∧
  (mTg w (t + 9) = 50) ∧
  (mLn w (t + 9) = 6) ∧
  (mTg w (t + 10) = 50) ∧
  (mLn w (t + 10) = 30) ∧
  (mTg w (t + 11) = 50) ∧
  (mLn w (t + 11) = 5) ∧
  (mTg w (t + 12) = 50) ∧
  (mLn w (t + 12) = 5) ∧
  (mTg w (t + 13) = 50) ∧
  (mLn w (t + 13) = 5) ∧
  (mTg w (t + 14) = 50) ∧
  (mLn w (t + 14) = 40) ∧
  (mTg w (t + 15) = 50) ∧
  (mLn w (t + 15) = 20) ∧
  (mTg w (t + 16) = 50) ∧
  (mLn w (t + 16) = 20) ∧
  (mTg w (t + 17) = 50) ∧
  (mLn w (t + 17) = 20) ∧
  (mTg w (t + 18) = 1) ∧
  (mTg w (t + 19) = 50) ∧
  (mLn w (t + 19) = 400) ∧
  (mTg w (t + 20) = 50) ∧
  (mLn w (t + 20) = 400) ∧
  (mR w t 0 = some (t + 1)) ∧
  (mR w t 1 = some (t + 2)) ∧
  (mR w t 2 = some (t + 3)) ∧
  (mR w t 3 = some (t + 4)) ∧
  (mR w t 4 = some (t + 5)) ∧
  (mR w t 5 = some (t + 6)) ∧
  (mR w t 6 = some (t + 7)) ∧
  (mR w t 7 = some (t + 8)) ∧
  (mR w t 8 = some (t + 9)) ∧
  (mR w t 9 = some (t + 10)) ∧
  (mR w t 10 = some (t + 11)) ∧
  (mR w t 11 = some (t + 12)) ∧
  (mR w t 12 = some (t + 13)) ∧
  (mR w t 13 = some (t + 14)) ∧
  (mR w t 14 = some (t + 15)) ∧
  (mR w t 15 = some (t + 16)) ∧
  (mR w t 16 = some (t + 17)) ∧
  (mR w t 17 = some (t + 18)) ∧
  (mR w (t + 18) 0 = some (t + 19)) ∧
  (mR w (t + 18) 1 = some (t + 20))
theorem tT.t0 {w : MW} {t : Nat} (h : tT w t) : mTg w t = 8 := h.1
theorem tT.t1 {w : MW} {t : Nat} (h : tT w t) : mTg w (t + 1) = 50 := h.2.1
theorem tT.l1 {w : MW} {t : Nat} (h : tT w t) : mLn w (t + 1) = 6 := h.2.2.1
theorem tT.t2 {w : MW} {t : Nat} (h : tT w t) : mTg w (t + 2) = 50 := h.2.2.2.1
theorem tT.l2 {w : MW} {t : Nat} (h : tT w t) : mLn w (t + 2) = 5 := h.2.2.2.2.1
theorem tT.t3 {w : MW} {t : Nat} (h : tT w t) : mTg w (t + 3) = 50 := h.2.2.2.2.2.1
theorem tT.l3 {w : MW} {t : Nat} (h : tT w t) : mLn w (t + 3) = 10 := h.2.2.2.2.2.2.1
theorem tT.t4 {w : MW} {t : Nat} (h : tT w t) : mTg w (t + 4) = 50 := h.2.2.2.2.2.2.2.1
theorem tT.l4 {w : MW} {t : Nat} (h : tT w t) : mLn w (t + 4) = 10 := h.2.2.2.2.2.2.2.2.1
theorem tT.t5 {w : MW} {t : Nat} (h : tT w t) : mTg w (t + 5) = 50 := h.2.2.2.2.2.2.2.2.2.1
theorem tT.l5 {w : MW} {t : Nat} (h : tT w t) : mLn w (t + 5) = 10 := h.2.2.2.2.2.2.2.2.2.2.1
theorem tT.t6 {w : MW} {t : Nat} (h : tT w t) : mTg w (t + 6) = 50 := h.2.2.2.2.2.2.2.2.2.2.2.1
theorem tT.l6 {w : MW} {t : Nat} (h : tT w t) : mLn w (t + 6) = 12 := h.2.2.2.2.2.2.2.2.2.2.2.2.1
theorem tT.t7 {w : MW} {t : Nat} (h : tT w t) : mTg w (t + 7) = 50 := h.2.2.2.2.2.2.2.2.2.2.2.2.2.1
theorem tT.l7 {w : MW} {t : Nat} (h : tT w t) : mLn w (t + 7) = 48 := h.2.2.2.2.2.2.2.2.2.2.2.2.2.2.1
theorem tT.t8 {w : MW} {t : Nat} (h : tT w t) : mTg w (t + 8) = 50 := h.2.2.2.2.2.2.2.2.2.2.2.2.2.2.2.1
theorem tT.l8 {w : MW} {t : Nat} (h : tT w t) : mLn w (t + 8) = 12 := h.2.2.2.2.2.2.2.2.2.2.2.2.2.2.2.2.1
theorem tT.t9 {w : MW} {t : Nat} (h : tT w t) : mTg w (t + 9) = 50 := h.2.2.2.2.2.2.2.2.2.2.2.2.2.2.2.2.2.1
theorem tT.l9 {w : MW} {t : Nat} (h : tT w t) : mLn w (t + 9) = 6 := h.2.2.2.2.2.2.2.2.2.2.2.2.2.2.2.2.2.2.1
theorem tT.t10 {w : MW} {t : Nat} (h : tT w t) : mTg w (t + 10) = 50 := h.2.2.2.2.2.2.2.2.2.2.2.2.2.2.2.2.2.2.2.1
theorem tT.l10 {w : MW} {t : Nat} (h : tT w t) : mLn w (t + 10) = 30 := h.2.2.2.2.2.2.2.2.2.2.2.2.2.2.2.2.2.2.2.2.1
theorem tT.t11 {w : MW} {t : Nat} (h : tT w t) : mTg w (t + 11) = 50 := h.2.2.2.2.2.2.2.2.2.2.2.2.2.2.2.2.2.2.2.2.2.1
theorem tT.l11 {w : MW} {t : Nat} (h : tT w t) : mLn w (t + 11) = 5 := h.2.2.2.2.2.2.2.2.2.2.2.2.2.2.2.2.2.2.2.2.2.2.1
theorem tT.t12 {w : MW} {t : Nat} (h : tT w t) : mTg w (t + 12) = 50 := h.2.2.2.2.2.2.2.2.2.2.2.2.2.2.2.2.2.2.2.2.2.2.2.1
theorem tT.l12 {w : MW} {t : Nat} (h : tT w t) : mLn w (t + 12) = 5 := h.2.2.2.2.2.2.2.2.2.2.2.2.2.2.2.2.2.2.2.2.2.2.2.2.1
theorem tT.t13 {w : MW} {t : Nat} (h : tT w t) : mTg w (t + 13) = 50 := h.2.2.2.2.2.2.2.2.2.2.2.2.2.2.2.2.2.2.2.2.2.2.2.2.2.1
theorem tT.l13 {w : MW} {t : Nat} (h : tT w t) : mLn w (t + 13) = 5 := h.2.2.2.2.2.2.2.2.2.2.2.2.2.2.2.2.2.2.2.2.2.2.2.2.2.2.1
theorem tT.t14 {w : MW} {t : Nat} (h : tT w t) : mTg w (t + 14) = 50 := h.2.2.2.2.2.2.2.2.2.2.2.2.2.2.2.2.2.2.2.2.2.2.2.2.2.2.2.1
theorem tT.l14 {w : MW} {t : Nat} (h : tT w t) : mLn w (t + 14) = 40 := h.2.2.2.2.2.2.2.2.2.2.2.2.2.2.2.2.2.2.2.2.2.2.2.2.2.2.2.2.1
theorem tT.t15 {w : MW} {t : Nat} (h : tT w t) : mTg w (t + 15) = 50 := h.2.2.2.2.2.2.2.2.2.2.2.2.2.2.2.2.2.2.2.2.2.2.2.2.2.2.2.2.2.1
theorem tT.l15 {w : MW} {t : Nat} (h : tT w t) : mLn w (t + 15) = 20 := h.2.2.2.2.2.2.2.2.2.2.2.2.2.2.2.2.2.2.2.2.2.2.2.2.2.2.2.2.2.2.1
theorem tT.t16 {w : MW} {t : Nat} (h : tT w t) : mTg w (t + 16) = 50 := h.2.2.2.2.2.2.2.2.2.2.2.2.2.2.2.2.2.2.2.2.2.2.2.2.2.2.2.2.2.2.2.1
theorem tT.l16 {w : MW} {t : Nat} (h : tT w t) : mLn w (t + 16) = 20 := h.2.2.2.2.2.2.2.2.2.2.2.2.2.2.2.2.2.2.2.2.2.2.2.2.2.2.2.2.2.2.2.2.1
theorem tT.t17 {w : MW} {t : Nat} (h : tT w t) : mTg w (t + 17) = 50 := h.2.2.2.2.2.2.2.2.2.2.2.2.2.2.2.2.2.2.2.2.2.2.2.2.2.2.2.2.2.2.2.2.2.1
theorem tT.l17 {w : MW} {t : Nat} (h : tT w t) : mLn w (t + 17) = 20 := h.2.2.2.2.2.2.2.2.2.2.2.2.2.2.2.2.2.2.2.2.2.2.2.2.2.2.2.2.2.2.2.2.2.2.1
theorem tT.t18 {w : MW} {t : Nat} (h : tT w t) : mTg w (t + 18) = 1 := h.2.2.2.2.2.2.2.2.2.2.2.2.2.2.2.2.2.2.2.2.2.2.2.2.2.2.2.2.2.2.2.2.2.2.2.1
theorem tT.t19 {w : MW} {t : Nat} (h : tT w t) : mTg w (t + 19) = 50 := h.2.2.2.2.2.2.2.2.2.2.2.2.2.2.2.2.2.2.2.2.2.2.2.2.2.2.2.2.2.2.2.2.2.2.2.2.1
theorem tT.l19 {w : MW} {t : Nat} (h : tT w t) : mLn w (t + 19) = 400 := h.2.2.2.2.2.2.2.2.2.2.2.2.2.2.2.2.2.2.2.2.2.2.2.2.2.2.2.2.2.2.2.2.2.2.2.2.2.1
theorem tT.t20 {w : MW} {t : Nat} (h : tT w t) : mTg w (t + 20) = 50 := h.2.2.2.2.2.2.2.2.2.2.2.2.2.2.2.2.2.2.2.2.2.2.2.2.2.2.2.2.2.2.2.2.2.2.2.2.2.2.1
theorem tT.l20 {w : MW} {t : Nat} (h : tT w t) : mLn w (t + 20) = 400 := h.2.2.2.2.2.2.2.2.2.2.2.2.2.2.2.2.2.2.2.2.2.2.2.2.2.2.2.2.2.2.2.2.2.2.2.2.2.2.2.1
theorem tT.r0_0 {w : MW} {t : Nat} (h : tT w t) : mR w t 0 = some (t + 1) := h.2.2.2.2.2.2.2.2.2.2.2.2.2.2.2.2.2.2.2.2.2.2.2.2.2.2.2.2.2.2.2.2.2.2.2.2.2.2.2.2.1
theorem tT.g0_0 {w : MW} {t : Nat} (h : tT w t) : gR w t 0 = (t + 1) := gR_of (tT.r0_0 h)
theorem tT.s0_0 {w : MW} {t : Nat} (h : tT w t) : mR w t 0 = some (gR w t 0) := by rw [tT.g0_0 h, tT.r0_0 h]
theorem tT.r0_1 {w : MW} {t : Nat} (h : tT w t) : mR w t 1 = some (t + 2) := h.2.2.2.2.2.2.2.2.2.2.2.2.2.2.2.2.2.2.2.2.2.2.2.2.2.2.2.2.2.2.2.2.2.2.2.2.2.2.2.2.2.1
theorem tT.g0_1 {w : MW} {t : Nat} (h : tT w t) : gR w t 1 = (t + 2) := gR_of (tT.r0_1 h)
theorem tT.s0_1 {w : MW} {t : Nat} (h : tT w t) : mR w t 1 = some (gR w t 1) := by rw [tT.g0_1 h, tT.r0_1 h]
theorem tT.r0_2 {w : MW} {t : Nat} (h : tT w t) : mR w t 2 = some (t + 3) := h.2.2.2.2.2.2.2.2.2.2.2.2.2.2.2.2.2.2.2.2.2.2.2.2.2.2.2.2.2.2.2.2.2.2.2.2.2.2.2.2.2.2.1
theorem tT.g0_2 {w : MW} {t : Nat} (h : tT w t) : gR w t 2 = (t + 3) := gR_of (tT.r0_2 h)
theorem tT.s0_2 {w : MW} {t : Nat} (h : tT w t) : mR w t 2 = some (gR w t 2) := by rw [tT.g0_2 h, tT.r0_2 h]
theorem tT.r0_3 {w : MW} {t : Nat} (h : tT w t) : mR w t 3 = some (t + 4) := h.2.2.2.2.2.2.2.2.2.2.2.2.2.2.2.2.2.2.2.2.2.2.2.2.2.2.2.2.2.2.2.2.2.2.2.2.2.2.2.2.2.2.2.1
theorem tT.g0_3 {w : MW} {t : Nat} (h : tT w t) : gR w t 3 = (t + 4) := gR_of (tT.r0_3 h)
theorem tT.s0_3 {w : MW} {t : Nat} (h : tT w t) : mR w t 3 = some (gR w t 3) := by rw [tT.g0_3 h, tT.r0_3 h]
theorem tT.r0_4 {w : MW} {t : Nat} (h : tT w t) : mR w t 4 = some (t + 5) := h.2.2.2.2.2.2.2.2.2.2.2.2.2.2.2.2.2.2.2.2.2.2.2.2.2.2.2.2.2.2.2.2.2.2.2.2.2.2.2.2.2.2.2.2.1
theorem tT.g0_4 {w : MW} {t : Nat} (h : tT w t) : gR w t 4 = (t + 5) := gR_of (tT.r0_4 h)
theorem tT.s0_4 {w : MW} {t : Nat} (h : tT w t) : mR w t 4 = some (gR w t 4) := by rw [tT.g0_4 h, tT.r0_4 h]
theorem tT.r0_5 {w : MW} {t : Nat} (h : tT w t) : mR w t 5 = some (t + 6) := h.2.2.2.2.2.2.2.2.2.2.2.2.2.2.2.2.2.2.2.2.2.2.2.2.2.2.2.2.2.2.2.2.2.2.2.2.2.2.2.2.2.2.2.2.2.1
theorem tT.g0_5 {w : MW} {t : Nat} (h : tT w t) : gR w t 5 = (t + 6) := gR_of (tT.r0_5 h)
theorem tT.s0_5 {w : MW} {t : Nat} (h : tT w t) : mR w t 5 = some (gR w t 5) := by rw [tT.g0_5 h, tT.r0_5 h]
theorem tT.r0_6 {w : MW} {t : Nat} (h : tT w t) : mR w t 6 = some (t + 7) := h.2.2.2.2.2.2.2.2.2.2.2.2.2.2.2.2.2.2.2.2.2.2.2.2.2.2.2.2.2.2.2.2.2.2.2.2.2.2.2.2.2.2.2.2.2.2.1
theorem tT.g0_6 {w : MW} {t : Nat} (h : tT w t) : gR w t 6 = (t + 7) := gR_of (tT.r0_6 h)
theorem tT.s0_6 {w : MW} {t : Nat} (h : tT w t) : mR w t 6 = some (gR w t 6) := by rw [tT.g0_6 h, tT.r0_6 h]
theorem tT.r0_7 {w : MW} {t : Nat} (h : tT w t) : mR w t 7 = some (t + 8) := h.2.2.2.2.2.2.2.2.2.2.2.2.2.2.2.2.2.2.2.2.2.2.2.2.2.2.2.2.2.2.2.2.2.2.2.2.2.2.2.2.2.2.2.2.2.2.2.1
theorem tT.g0_7 {w : MW} {t : Nat} (h : tT w t) : gR w t 7 = (t + 8) := gR_of (tT.r0_7 h)
theorem tT.s0_7 {w : MW} {t : Nat} (h : tT w t) : mR w t 7 = some (gR w t 7) := by rw [tT.g0_7 h, tT.r0_7 h]
theorem tT.r0_8 {w : MW} {t : Nat} (h : tT w t) : mR w t 8 = some (t + 9) := h.2.2.2.2.2.2.2.2.2.2.2.2.2.2.2.2.2.2.2.2.2.2.2.2.2.2.2.2.2.2.2.2.2.2.2.2.2.2.2.2.2.2.2.2.2.2.2.2.1
theorem tT.g0_8 {w : MW} {t : Nat} (h : tT w t) : gR w t 8 = (t + 9) := gR_of (tT.r0_8 h)
theorem tT.s0_8 {w : MW} {t : Nat} (h : tT w t) : mR w t 8 = some (gR w t 8) := by rw [tT.g0_8 h, tT.r0_8 h]
theorem tT.r0_9 {w : MW} {t : Nat} (h : tT w t) : mR w t 9 = some (t + 10) := h.2.2.2.2.2.2.2.2.2.2.2.2.2.2.2.2.2.2.2.2.2.2.2.2.2.2.2.2.2.2.2.2.2.2.2.2.2.2.2.2.2.2.2.2.2.2.2.2.2.1
theorem tT.g0_9 {w : MW} {t : Nat} (h : tT w t) : gR w t 9 = (t + 10) := gR_of (tT.r0_9 h)
theorem tT.s0_9 {w : MW} {t : Nat} (h : tT w t) : mR w t 9 = some (gR w t 9) := by rw [tT.g0_9 h, tT.r0_9 h]
theorem tT.r0_10 {w : MW} {t : Nat} (h : tT w t) : mR w t 10 = some (t + 11) := h.2.2.2.2.2.2.2.2.2.2.2.2.2.2.2.2.2.2.2.2.2.2.2.2.2.2.2.2.2.2.2.2.2.2.2.2.2.2.2.2.2.2.2.2.2.2.2.2.2.2.1
theorem tT.g0_10 {w : MW} {t : Nat} (h : tT w t) : gR w t 10 = (t + 11) := gR_of (tT.r0_10 h)
theorem tT.s0_10 {w : MW} {t : Nat} (h : tT w t) : mR w t 10 = some (gR w t 10) := by rw [tT.g0_10 h, tT.r0_10 h]
theorem tT.r0_11 {w : MW} {t : Nat} (h : tT w t) : mR w t 11 = some (t + 12) := h.2.2.2.2.2.2.2.2.2.2.2.2.2.2.2.2.2.2.2.2.2.2.2.2.2.2.2.2.2.2.2.2.2.2.2.2.2.2.2.2.2.2.2.2.2.2.2.2.2.2.2.1
theorem tT.g0_11 {w : MW} {t : Nat} (h : tT w t) : gR w t 11 = (t + 12) := gR_of (tT.r0_11 h)
theorem tT.s0_11 {w : MW} {t : Nat} (h : tT w t) : mR w t 11 = some (gR w t 11) := by rw [tT.g0_11 h, tT.r0_11 h]
theorem tT.r0_12 {w : MW} {t : Nat} (h : tT w t) : mR w t 12 = some (t + 13) := h.2.2.2.2.2.2.2.2.2.2.2.2.2.2.2.2.2.2.2.2.2.2.2.2.2.2.2.2.2.2.2.2.2.2.2.2.2.2.2.2.2.2.2.2.2.2.2.2.2.2.2.2.1
theorem tT.g0_12 {w : MW} {t : Nat} (h : tT w t) : gR w t 12 = (t + 13) := gR_of (tT.r0_12 h)
theorem tT.s0_12 {w : MW} {t : Nat} (h : tT w t) : mR w t 12 = some (gR w t 12) := by rw [tT.g0_12 h, tT.r0_12 h]
theorem tT.r0_13 {w : MW} {t : Nat} (h : tT w t) : mR w t 13 = some (t + 14) := h.2.2.2.2.2.2.2.2.2.2.2.2.2.2.2.2.2.2.2.2.2.2.2.2.2.2.2.2.2.2.2.2.2.2.2.2.2.2.2.2.2.2.2.2.2.2.2.2.2.2.2.2.2.1
theorem tT.g0_13 {w : MW} {t : Nat} (h : tT w t) : gR w t 13 = (t + 14) := gR_of (tT.r0_13 h)
theorem tT.s0_13 {w : MW} {t : Nat} (h : tT w t) : mR w t 13 = some (gR w t 13) := by rw [tT.g0_13 h, tT.r0_13 h]
theorem tT.r0_14 {w : MW} {t : Nat} (h : tT w t) : mR w t 14 = some (t + 15) := h.2.2.2.2.2.2.2.2.2.2.2.2.2.2.2.2.2.2.2.2.2.2.2.2.2.2.2.2.2.2.2.2.2.2.2.2.2.2.2.2.2.2.2.2.2.2.2.2.2.2.2.2.2.2.1
theorem tT.g0_14 {w : MW} {t : Nat} (h : tT w t) : gR w t 14 = (t + 15) := gR_of (tT.r0_14 h)
theorem tT.s0_14 {w : MW} {t : Nat} (h : tT w t) : mR w t 14 = some (gR w t 14) := by rw [tT.g0_14 h, tT.r0_14 h]
theorem tT.r0_15 {w : MW} {t : Nat} (h : tT w t) : mR w t 15 = some (t + 16) := h.2.2.2.2.2.2.2.2.2.2.2.2.2.2.2.2.2.2.2.2.2.2.2.2.2.2.2.2.2.2.2.2.2.2.2.2.2.2.2.2.2.2.2.2.2.2.2.2.2.2.2.2.2.2.2.1
theorem tT.g0_15 {w : MW} {t : Nat} (h : tT w t) : gR w t 15 = (t + 16) := gR_of (tT.r0_15 h)
theorem tT.s0_15 {w : MW} {t : Nat} (h : tT w t) : mR w t 15 = some (gR w t 15) := by rw [tT.g0_15 h, tT.r0_15 h]
theorem tT.r0_16 {w : MW} {t : Nat} (h : tT w t) : mR w t 16 = some (t + 17) := h.2.2.2.2.2.2.2.2.2.2.2.2.2.2.2.2.2.2.2.2.2.2.2.2.2.2.2.2.2.2.2.2.2.2.2.2.2.2.2.2.2.2.2.2.2.2.2.2.2.2.2.2.2.2.2.2.1
theorem tT.g0_16 {w : MW} {t : Nat} (h : tT w t) : gR w t 16 = (t + 17) := gR_of (tT.r0_16 h)
theorem tT.s0_16 {w : MW} {t : Nat} (h : tT w t) : mR w t 16 = some (gR w t 16) := by rw [tT.g0_16 h, tT.r0_16 h]
theorem tT.r0_17 {w : MW} {t : Nat} (h : tT w t) : mR w t 17 = some (t + 18) := h.2.2.2.2.2.2.2.2.2.2.2.2.2.2.2.2.2.2.2.2.2.2.2.2.2.2.2.2.2.2.2.2.2.2.2.2.2.2.2.2.2.2.2.2.2.2.2.2.2.2.2.2.2.2.2.2.2.1
theorem tT.g0_17 {w : MW} {t : Nat} (h : tT w t) : gR w t 17 = (t + 18) := gR_of (tT.r0_17 h)
theorem tT.s0_17 {w : MW} {t : Nat} (h : tT w t) : mR w t 17 = some (gR w t 17) := by rw [tT.g0_17 h, tT.r0_17 h]
theorem tT.r18_0 {w : MW} {t : Nat} (h : tT w t) : mR w (t + 18) 0 = some (t + 19) := h.2.2.2.2.2.2.2.2.2.2.2.2.2.2.2.2.2.2.2.2.2.2.2.2.2.2.2.2.2.2.2.2.2.2.2.2.2.2.2.2.2.2.2.2.2.2.2.2.2.2.2.2.2.2.2.2.2.2.1
theorem tT.g18_0 {w : MW} {t : Nat} (h : tT w t) : gR w (t + 18) 0 = (t + 19) := gR_of (tT.r18_0 h)
theorem tT.s18_0 {w : MW} {t : Nat} (h : tT w t) : mR w (t + 18) 0 = some (gR w (t + 18) 0) := by rw [tT.g18_0 h, tT.r18_0 h]
theorem tT.r18_1 {w : MW} {t : Nat} (h : tT w t) : mR w (t + 18) 1 = some (t + 20) := h.2.2.2.2.2.2.2.2.2.2.2.2.2.2.2.2.2.2.2.2.2.2.2.2.2.2.2.2.2.2.2.2.2.2.2.2.2.2.2.2.2.2.2.2.2.2.2.2.2.2.2.2.2.2.2.2.2.2.2
theorem tT.g18_1 {w : MW} {t : Nat} (h : tT w t) : gR w (t + 18) 1 = (t + 20) := gR_of (tT.r18_1 h)
theorem tT.s18_1 {w : MW} {t : Nat} (h : tT w t) : mR w (t + 18) 1 = some (gR w (t + 18) 1) := by rw [tT.g18_1 h, tT.r18_1 h]
/-- a bee at b, with its told list at t -/
def bT (w : MW) (b t : Nat) : Prop :=
  (mTg w b = 0) ∧
  (mTg w (b + 1) = 3) ∧
  (mTg w (b + 2) = 50) ∧
  (mLn w (b + 2) = 64) ∧
  (mTg w (b + 3) = 53) ∧
  (mLn w (b + 3) = 6) ∧
  (mTg w (b + 4) = 4) ∧
  (mTg w (b + 5) = 50) ∧
  (mLn w (b + 5) = 5) ∧
  (mTg w (b + 6) = 50) ∧
  (mLn w (b + 6) = 10) ∧
  (mTg w (b + 7) = 50) ∧
  (mLn w (b + 7) = 6) ∧
  (mTg w (b + 8) = 50) ∧
  (mLn w (b + 8) = 12) ∧
  (mTg w (b + 9) = 50) ∧
  (mLn w (b + 9) = 12) ∧
  (mR w b 0 = some t) ∧
  (mR w b 1 = some (b + 1)) ∧
  (mR w b 2 = some (b + 3)) ∧
  (mR w b 3 = some (b + 4)) ∧
  (mR w b 4 = some (b + 7)) ∧
  (mR w b 5 = some (b + 8)) ∧
  (mR w b 6 = some (b + 9)) ∧
  (mR w (b + 1) 0 = some (b + 2)) ∧
  (mR w (b + 4) 0 = some (b + 5)) ∧
  (mR w (b + 4) 1 = some (b + 6)) ∧
  (220 ≤ b) ∧
  (mE ≤ t) ∧
  (t + 21 ≤ b) ∧
  (∀ s, s < 6 → mTg w (spc b s) = 4 ∧ mTg w (knc b s) = 50 ∧ mTg w (hrc b s) = 50 ∧ mLn w (knc b s) = 5 ∧ mLn w (hrc b s) = 10 ∧ mR w (spc b s) 0 = some (knc b s) ∧ mR w (spc b s) 1 = some (hrc b s) ∧ mR w (b + 3) s = some (spc b s))
theorem bT.t0 {w : MW} {b t : Nat} (h : bT w b t) : mTg w b = 0 := h.1
theorem bT.t1 {w : MW} {b t : Nat} (h : bT w b t) : mTg w (b + 1) = 3 := h.2.1
theorem bT.t2 {w : MW} {b t : Nat} (h : bT w b t) : mTg w (b + 2) = 50 := h.2.2.1
theorem bT.l2 {w : MW} {b t : Nat} (h : bT w b t) : mLn w (b + 2) = 64 := h.2.2.2.1
theorem bT.t3 {w : MW} {b t : Nat} (h : bT w b t) : mTg w (b + 3) = 53 := h.2.2.2.2.1
theorem bT.l3 {w : MW} {b t : Nat} (h : bT w b t) : mLn w (b + 3) = 6 := h.2.2.2.2.2.1
theorem bT.t4 {w : MW} {b t : Nat} (h : bT w b t) : mTg w (b + 4) = 4 := h.2.2.2.2.2.2.1
theorem bT.t5 {w : MW} {b t : Nat} (h : bT w b t) : mTg w (b + 5) = 50 := h.2.2.2.2.2.2.2.1
theorem bT.l5 {w : MW} {b t : Nat} (h : bT w b t) : mLn w (b + 5) = 5 := h.2.2.2.2.2.2.2.2.1
theorem bT.t6 {w : MW} {b t : Nat} (h : bT w b t) : mTg w (b + 6) = 50 := h.2.2.2.2.2.2.2.2.2.1
theorem bT.l6 {w : MW} {b t : Nat} (h : bT w b t) : mLn w (b + 6) = 10 := h.2.2.2.2.2.2.2.2.2.2.1
theorem bT.t7 {w : MW} {b t : Nat} (h : bT w b t) : mTg w (b + 7) = 50 := h.2.2.2.2.2.2.2.2.2.2.2.1
theorem bT.l7 {w : MW} {b t : Nat} (h : bT w b t) : mLn w (b + 7) = 6 := h.2.2.2.2.2.2.2.2.2.2.2.2.1
theorem bT.t8 {w : MW} {b t : Nat} (h : bT w b t) : mTg w (b + 8) = 50 := h.2.2.2.2.2.2.2.2.2.2.2.2.2.1
theorem bT.l8 {w : MW} {b t : Nat} (h : bT w b t) : mLn w (b + 8) = 12 := h.2.2.2.2.2.2.2.2.2.2.2.2.2.2.1
theorem bT.t9 {w : MW} {b t : Nat} (h : bT w b t) : mTg w (b + 9) = 50 := h.2.2.2.2.2.2.2.2.2.2.2.2.2.2.2.1
theorem bT.l9 {w : MW} {b t : Nat} (h : bT w b t) : mLn w (b + 9) = 12 := h.2.2.2.2.2.2.2.2.2.2.2.2.2.2.2.2.1
theorem bT.r0_0 {w : MW} {b t : Nat} (h : bT w b t) : mR w b 0 = some t := h.2.2.2.2.2.2.2.2.2.2.2.2.2.2.2.2.2.1
theorem bT.g0_0 {w : MW} {b t : Nat} (h : bT w b t) : gR w b 0 = t := gR_of (bT.r0_0 h)
theorem bT.s0_0 {w : MW} {b t : Nat} (h : bT w b t) : mR w b 0 = some (gR w b 0) := by rw [bT.g0_0 h, bT.r0_0 h]
theorem bT.r0_1 {w : MW} {b t : Nat} (h : bT w b t) : mR w b 1 = some (b + 1) := h.2.2.2.2.2.2.2.2.2.2.2.2.2.2.2.2.2.2.1
theorem bT.g0_1 {w : MW} {b t : Nat} (h : bT w b t) : gR w b 1 = (b + 1) := gR_of (bT.r0_1 h)
theorem bT.s0_1 {w : MW} {b t : Nat} (h : bT w b t) : mR w b 1 = some (gR w b 1) := by rw [bT.g0_1 h, bT.r0_1 h]
theorem bT.r0_2 {w : MW} {b t : Nat} (h : bT w b t) : mR w b 2 = some (b + 3) := h.2.2.2.2.2.2.2.2.2.2.2.2.2.2.2.2.2.2.2.1
theorem bT.g0_2 {w : MW} {b t : Nat} (h : bT w b t) : gR w b 2 = (b + 3) := gR_of (bT.r0_2 h)
theorem bT.s0_2 {w : MW} {b t : Nat} (h : bT w b t) : mR w b 2 = some (gR w b 2) := by rw [bT.g0_2 h, bT.r0_2 h]
theorem bT.r0_3 {w : MW} {b t : Nat} (h : bT w b t) : mR w b 3 = some (b + 4) := h.2.2.2.2.2.2.2.2.2.2.2.2.2.2.2.2.2.2.2.2.1
theorem bT.g0_3 {w : MW} {b t : Nat} (h : bT w b t) : gR w b 3 = (b + 4) := gR_of (bT.r0_3 h)
theorem bT.s0_3 {w : MW} {b t : Nat} (h : bT w b t) : mR w b 3 = some (gR w b 3) := by rw [bT.g0_3 h, bT.r0_3 h]
theorem bT.r0_4 {w : MW} {b t : Nat} (h : bT w b t) : mR w b 4 = some (b + 7) := h.2.2.2.2.2.2.2.2.2.2.2.2.2.2.2.2.2.2.2.2.2.1
theorem bT.g0_4 {w : MW} {b t : Nat} (h : bT w b t) : gR w b 4 = (b + 7) := gR_of (bT.r0_4 h)
theorem bT.s0_4 {w : MW} {b t : Nat} (h : bT w b t) : mR w b 4 = some (gR w b 4) := by rw [bT.g0_4 h, bT.r0_4 h]
theorem bT.r0_5 {w : MW} {b t : Nat} (h : bT w b t) : mR w b 5 = some (b + 8) := h.2.2.2.2.2.2.2.2.2.2.2.2.2.2.2.2.2.2.2.2.2.2.1
theorem bT.g0_5 {w : MW} {b t : Nat} (h : bT w b t) : gR w b 5 = (b + 8) := gR_of (bT.r0_5 h)
theorem bT.s0_5 {w : MW} {b t : Nat} (h : bT w b t) : mR w b 5 = some (gR w b 5) := by rw [bT.g0_5 h, bT.r0_5 h]
theorem bT.r0_6 {w : MW} {b t : Nat} (h : bT w b t) : mR w b 6 = some (b + 9) := h.2.2.2.2.2.2.2.2.2.2.2.2.2.2.2.2.2.2.2.2.2.2.2.1
theorem bT.g0_6 {w : MW} {b t : Nat} (h : bT w b t) : gR w b 6 = (b + 9) := gR_of (bT.r0_6 h)
theorem bT.s0_6 {w : MW} {b t : Nat} (h : bT w b t) : mR w b 6 = some (gR w b 6) := by rw [bT.g0_6 h, bT.r0_6 h]
theorem bT.r1_0 {w : MW} {b t : Nat} (h : bT w b t) : mR w (b + 1) 0 = some (b + 2) := h.2.2.2.2.2.2.2.2.2.2.2.2.2.2.2.2.2.2.2.2.2.2.2.2.1
theorem bT.g1_0 {w : MW} {b t : Nat} (h : bT w b t) : gR w (b + 1) 0 = (b + 2) := gR_of (bT.r1_0 h)
theorem bT.s1_0 {w : MW} {b t : Nat} (h : bT w b t) : mR w (b + 1) 0 = some (gR w (b + 1) 0) := by rw [bT.g1_0 h, bT.r1_0 h]
theorem bT.r4_0 {w : MW} {b t : Nat} (h : bT w b t) : mR w (b + 4) 0 = some (b + 5) := h.2.2.2.2.2.2.2.2.2.2.2.2.2.2.2.2.2.2.2.2.2.2.2.2.2.1
theorem bT.g4_0 {w : MW} {b t : Nat} (h : bT w b t) : gR w (b + 4) 0 = (b + 5) := gR_of (bT.r4_0 h)
theorem bT.s4_0 {w : MW} {b t : Nat} (h : bT w b t) : mR w (b + 4) 0 = some (gR w (b + 4) 0) := by rw [bT.g4_0 h, bT.r4_0 h]
theorem bT.r4_1 {w : MW} {b t : Nat} (h : bT w b t) : mR w (b + 4) 1 = some (b + 6) := h.2.2.2.2.2.2.2.2.2.2.2.2.2.2.2.2.2.2.2.2.2.2.2.2.2.2.1
theorem bT.g4_1 {w : MW} {b t : Nat} (h : bT w b t) : gR w (b + 4) 1 = (b + 6) := gR_of (bT.r4_1 h)
theorem bT.s4_1 {w : MW} {b t : Nat} (h : bT w b t) : mR w (b + 4) 1 = some (gR w (b + 4) 1) := by rw [bT.g4_1 h, bT.r4_1 h]
theorem bT.lo {w : MW} {b t : Nat} (h : bT w b t) : 220 ≤ b := h.2.2.2.2.2.2.2.2.2.2.2.2.2.2.2.2.2.2.2.2.2.2.2.2.2.2.2.1
theorem bT.tlo {w : MW} {b t : Nat} (h : bT w b t) : mE ≤ t := h.2.2.2.2.2.2.2.2.2.2.2.2.2.2.2.2.2.2.2.2.2.2.2.2.2.2.2.2.1
theorem bT.thi {w : MW} {b t : Nat} (h : bT w b t) : t + 21 ≤ b := h.2.2.2.2.2.2.2.2.2.2.2.2.2.2.2.2.2.2.2.2.2.2.2.2.2.2.2.2.2.1
theorem bT.sp {w : MW} {b t : Nat} (h : bT w b t) : ∀ s, s < 6 → mTg w (spc b s) = 4 ∧ mTg w (knc b s) = 50 ∧ mTg w (hrc b s) = 50 ∧ mLn w (knc b s) = 5 ∧ mLn w (hrc b s) = 10 ∧ mR w (spc b s) 0 = some (knc b s) ∧ mR w (spc b s) 1 = some (hrc b s) ∧ mR w (b + 3) s = some (spc b s) := h.2.2.2.2.2.2.2.2.2.2.2.2.2.2.2.2.2.2.2.2.2.2.2.2.2.2.2.2.2.2
theorem bT.st {w : MW} {b t s : Nat} (h : bT w b t) (hs : s < 6) : mTg w (spc b s) = 4 := (bT.sp h s hs).1
theorem bT.kt {w : MW} {b t s : Nat} (h : bT w b t) (hs : s < 6) : mTg w (knc b s) = 50 := (bT.sp h s hs).2.1
theorem bT.ht {w : MW} {b t s : Nat} (h : bT w b t) (hs : s < 6) : mTg w (hrc b s) = 50 := (bT.sp h s hs).2.2.1
theorem bT.kl {w : MW} {b t s : Nat} (h : bT w b t) (hs : s < 6) : mLn w (knc b s) = 5 := (bT.sp h s hs).2.2.2.1
theorem bT.hl {w : MW} {b t s : Nat} (h : bT w b t) (hs : s < 6) : mLn w (hrc b s) = 10 := (bT.sp h s hs).2.2.2.2.1
theorem bT.kr {w : MW} {b t s : Nat} (h : bT w b t) (hs : s < 6) : mR w (spc b s) 0 = some (knc b s) := (bT.sp h s hs).2.2.2.2.2.1
theorem bT.hr {w : MW} {b t s : Nat} (h : bT w b t) (hs : s < 6) : mR w (spc b s) 1 = some (hrc b s) := (bT.sp h s hs).2.2.2.2.2.2.1
theorem bT.sr {w : MW} {b t s : Nat} (h : bT w b t) (hs : s < 6) : mR w (b + 3) s = some (spc b s) := (bT.sp h s hs).2.2.2.2.2.2.2
theorem bT.kg {w : MW} {b t s : Nat} (h : bT w b t) (hs : s < 6) : gR w (spc b s) 0 = knc b s := gR_of (bT.kr h hs)
theorem bT.hg {w : MW} {b t s : Nat} (h : bT w b t) (hs : s < 6) : gR w (spc b s) 1 = hrc b s := gR_of (bT.hr h hs)
theorem bT.sg {w : MW} {b t s : Nat} (h : bT w b t) (hs : s < 6) : gR w (b + 3) s = spc b s := gR_of (bT.sr h hs)
theorem bT.ks {w : MW} {b t s : Nat} (h : bT w b t) (hs : s < 6) : mR w (spc b s) 0 = some (gR w (spc b s) 0) := by rw [bT.kg h hs, bT.kr h hs]
theorem bT.hs {w : MW} {b t s : Nat} (h : bT w b t) (hs : s < 6) : mR w (spc b s) 1 = some (gR w (spc b s) 1) := by rw [bT.hg h hs, bT.hr h hs]
theorem bT.ss {w : MW} {b t s : Nat} (h : bT w b t) (hs : s < 6) : mR w (b + 3) s = some (gR w (b + 3) s) := by rw [bT.sg h hs, bT.sr h hs]
theorem bT.wJ {w : MW} {b t : Nat} {J : Nat → Nat → Int32} (h : bT w b t) : bT (wJ w J) b t := h
theorem tT.wJ {w : MW} {t : Nat} {J : Nat → Nat → Int32} (h : tT w t) : tT (wJ w J) t := h
theorem bT.wI {w : MW} {b t c k : Nat} {x : Int32} (h : bT w b t) : bT (wI w c k x) b t := h
theorem tT.wI {w : MW} {t c k : Nat} {x : Int32} (h : tT w t) : tT (wI w c k x) t := h
